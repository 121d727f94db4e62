set_option maxRecDepth 100000 in
set_option maxHeartbeats 4000000 in
theorem mo_land_eq (s : mSt) (x1 : Int32) (x2 : Int32) : mo_land s x1 x2 = (
  bI (mo_in s x1.toInt64 0 99) fun v1 s1 =>
    if v1 = 0 then
      rI (-1) s1
    else
      bI (mo_in s1 x2.toInt64 0 99) fun v2 s2 =>
        if v2 = 0 then
          rI (-1) s2
        else
          if (s2 183 0) = 8 then
            rI (-3) s2
          else
            gd (inb (s2 183 0) 8) (
              gd (inb (s2 183 0) 8) (
                rI (((s2 183 0) + 1) - 1) (wr (wr (wr s2 184 ((s2 183 0)).toNatClampNeg x1) 185 ((s2 183 0)).toNatClampNeg x2) 183 0 ((s2 183 0) + 1)))) : mO) := (EV_un 2000 153 0 [some (pA 183), some (pI x1), some (pI x2)] [] s).trans rfl
set_option maxRecDepth 100000 in
set_option maxHeartbeats 4000000 in
theorem mo_line_eq (s : mSt) (x1 : Int32) (x2 : Int32) (x3 : Int32) (x4 : Int32) (x5 : Int32) (x6 : Int32) : mo_line s x1 x2 x3 x4 x5 x6 = (
  bI (mo_isLand s x1) fun v1 s1 =>
    if v1 = 0 then
      rI (-1) s1
    else
      bI (mo_isLand s1 x2) fun v2 s2 =>
        if v2 = 0 then
          rI (-1) s2
        else
          if x1 = x2 then
            rI (-1) s2
          else
            bI (mo_in s2 x3.toInt64 0 1) fun v3 s3 =>
              if v3 = 0 then
                rI (-1) s3
              else
                bI (mo_in s3 x4.toInt64 1 8) fun v4 s4 =>
                  if v4 = 0 then
                    rI (-1) s4
                  else
                    bI (mo_in s4 x5.toInt64 0 20) fun v5 s5 =>
                      if v5 = 0 then
                        rI (-1) s5
                      else
                        bI (mo_in s5 x6.toInt64 0 99) fun v6 s6 =>
                          if v6 = 0 then
                            rI (-1) s6
                          else
                            if (s6 183 3) = 12 then
                              rI (-3) s6
                            else
                              gd (inb (s6 183 3) 12) (
                                gd (inb (s6 183 3) 12) (
                                  gd (inb (s6 183 3) 12) (
                                    gd (inb (s6 183 3) 12) (
                                      gd (inb (s6 183 3) 12) (
                                        gd (inb (s6 183 3) 12) (
                                          rI (((s6 183 3) + 1) - 1) (wr (wr (wr (wr (wr (wr (wr s6 186 ((s6 183 3)).toNatClampNeg x1) 187 ((s6 183 3)).toNatClampNeg x2) 188 ((s6 183 3)).toNatClampNeg x3) 189 ((s6 183 3)).toNatClampNeg x4) 190 ((s6 183 3)).toNatClampNeg x5) 191 ((s6 183 3)).toNatClampNeg x6) 183 3 ((s6 183 3) + 1)))))))) : mO) := (EV_un 2000 154 0 [some (pA 183), some (pI x1), some (pI x2), some (pI x3), some (pI x4), some (pI x5), some (pI x6)] [] s).trans rfl
set_option maxRecDepth 100000 in
set_option maxHeartbeats 4000000 in
theorem mo_lineOf_eq (s : mSt) (x1 : Int32) (x2 : Int32) : mo_lineOf s x1 x2 = (
  bI (mo_isLine s x1) fun v1 s1 =>
    if v1 = 0 then
      rI (-1) s1
    else
      bI (mo_in s1 x2.toInt64 0 10) fun v2 s2 =>
        if v2 = 0 then
          rI (-1) s2
        else
          if x2 = 0 then
            gd (inb x1 12) (
              rI (s2 186 x1.toNatClampNeg) s2)
          else
          if x2 = 1 then
            gd (inb x1 12) (
              rI (s2 187 x1.toNatClampNeg) s2)
          else
          if x2 = 2 then
            gd (inb x1 12) (
              rI (s2 188 x1.toNatClampNeg) s2)
          else
          if x2 = 3 then
            gd (inb x1 12) (
              rI (s2 189 x1.toNatClampNeg) s2)
          else
          if x2 = 4 then
            gd (inb x1 12) (
              rI (s2 190 x1.toNatClampNeg) s2)
          else
          if x2 = 5 then
            gd (inb x1 12) (
              rI (s2 191 x1.toNatClampNeg) s2)
          else
          if x2 = 6 then
            bI (mo_lengthOf s2 x1) fun v3 s3 =>
              rI v3 s3
          else
          if x2 = 7 then
            bI (mo_stateOf s2 x1) fun v4 s4 =>
              rI v4 s4
          else
          if x2 = 8 then
            bI (mo_roomOf s2 x1) fun v5 s5 =>
              rI v5 s5
          else
          if x2 = 9 then
            bV (mo_roomsNow s2) fun s6 =>
              bI (mo_leads s6) fun v7 s7 =>
                gd (inb x1 12) (
                  rI (s7 202 x1.toNatClampNeg) s7)
          else
            bV (mo_roomsNow s2) fun s8 =>
              bI (mo_aheadOf s8 x1) fun v9 s9 =>
                rI v9 s9 : mO) := (EV_un 2000 163 0 [some (pA 183), some (pI x1), some (pI x2)] [] s).trans rfl
set_option maxRecDepth 100000 in
set_option maxHeartbeats 4000000 in
theorem mo_light_eq (s : mSt) (x1 : Int32) : mo_light s x1 = (
  bI (mo_isLine s x1) fun v1 s1 =>
    if v1 = 0 then
      rI (-10000) s1
    else
      bI (mo_lightIn s1 x1 (s1 183 10)) fun v2 s2 =>
        rI v2 s2 : mO) := (EV_un 2000 157 0 [some (pA 183), some (pI x1)] [] s).trans rfl
set_option maxRecDepth 100000 in
set_option maxHeartbeats 4000000 in
theorem mo_until_eq (s : mSt) (x1 : Int32) : mo_until s x1 = (
  bI (mo_isLine s x1) fun v1 s1 =>
    if v1 = 0 then
      rI (-1) s1
    else
      mo_until_12 s1 x1 0 : mO) := (EV_un 2000 158 0 [some (pA 183), some (pI x1), none] [] s).trans rfl
set_option maxRecDepth 100000 in
set_option maxHeartbeats 4000000 in
theorem mo_until_12_eq (s : mSt) (x1 : Int32) (x2 : Int32) : mo_until_12 s x1 x2 = (
  if (100 : Int32) ≤ x2 then
    mo_until_39 s x2
  else
    bI (mo_lightIn s x1 x2) fun v1 s1 =>
      if v1 < (s1 192 1) then
        mo_until_39 s1 x2
      else
        mo_until_12 s1 x1 (x2 + 1) : mO) := (EV_un 2000 158 12 [some (pA 183), some (pI x1), some (pI x2)] [] s).trans rfl
set_option maxRecDepth 100000 in
set_option maxHeartbeats 4000000 in
theorem mo_until_39_eq (s : mSt) (x2 : Int32) : mo_until_39 s x2 = (
  if (100 : Int32) ≤ x2 then
    rI (-4) s
  else
    rI x2 s : mO) := (EV_un 2000 158 39 [none, none, some (pI x2)] [] s).trans rfl
set_option maxRecDepth 100000 in
set_option maxHeartbeats 4000000 in
theorem mo_change_eq (s : mSt) (x1 : Int32) (x2 : Int32) (x3 : Int32) : mo_change s x1 x2 x3 = (
  bI (mo_isLine s x1) fun v1 s1 =>
    if v1 = 0 then
      rI (-1) s1
    else
      bI (mo_in s1 x2.toInt64 0 20) fun v2 s2 =>
        if v2 = 0 then
          rI (-1) s2
        else
          bI (mo_in s2 x3.toInt64 1 8) fun v3 s3 =>
            if v3 = 0 then
              rI (-1) s3
            else
              gd (inb x1 12) (
                gd (inb x1 12) (
                  gd (inb x1 12) (
                    rI (s3 190 x1.toNatClampNeg) (wr (wr s3 190 x1.toNatClampNeg x2) 189 x1.toNatClampNeg x3)))) : mO) := (EV_un 2000 164 0 [some (pA 183), some (pI x1), some (pI x2), some (pI x3), none] [] s).trans rfl
set_option maxRecDepth 100000 in
set_option maxHeartbeats 4000000 in
theorem mo_year_eq (s : mSt) (x1 : Int32) : mo_year s x1 = (
  bI (mo_in s x1.toInt64 (s 183 10).toInt64 99) fun v1 s1 =>
    if v1 = 0 then
      rI (-1) s1
    else
      rI (s1 183 10) (wr s1 183 10 x1) : mO) := (EV_un 2000 165 0 [some (pA 183), some (pI x1), none] [] s).trans rfl
set_option maxRecDepth 100000 in
set_option maxHeartbeats 4000000 in
theorem mo_hour_eq (s : mSt) (x1 : Int32) : mo_hour s x1 = (
  bI (mo_in s x1.toInt64 (s 183 11).toInt64 999) fun v1 s1 =>
    if v1 = 0 then
      rI (-1) s1
    else
      rI (s1 183 11) (wr s1 183 11 x1) : mO) := (EV_un 2000 166 0 [some (pA 183), some (pI x1), none] [] s).trans rfl
set_option maxRecDepth 100000 in
set_option maxHeartbeats 4000000 in
theorem mo_feed_eq (s : mSt) (x1 : Int64) : mo_feed s x1 = (
  if ((s 183 20) + 8) ≤ 240 then
    mo_feed_19 s x1 56
  else
    rI (-3) s : mO) := (EV_un 2000 168 0 [some (pA 183), some (pJ x1), none, none] [] s).trans rfl
set_option maxRecDepth 100000 in
set_option maxHeartbeats 4000000 in
theorem mo_feed_19_eq (s : mSt) (x1 : Int64) (x3 : Int32) : mo_feed_19 s x1 x3 = (
  if x3 < 0 then
    rI (s 183 20) s
  else
    gd (inb (s 183 20) 240) (
      mo_feed_19 (wr (wr s 197 ((s 183 20)).toNatClampNeg ((x1 >>> (x3.toInt64 &&& 63)) &&& 255).toInt32) 183 20 ((s 183 20) + 1)) x1 (x3 + (-8))) : mO) := (EV_un 2000 168 19 [some (pA 183), some (pJ x1), none, some (pI x3)] [] s).trans rfl
set_option maxRecDepth 100000 in
set_option maxHeartbeats 4000000 in
theorem mo_end_eq (s : mSt) (x1 : Int32) : mo_end s x1 = (
  bI (mo_in s x1.toInt64 0 (s 183 20).toInt64) fun v1 s1 =>
    if v1 = 0 then
      rI (-1) s1
    else
      rI (s1 183 20) (wr s1 183 20 x1) : mO) := (EV_un 2000 169 0 [some (pA 183), some (pI x1), none] [] s).trans rfl
set_option maxRecDepth 100000 in
set_option maxHeartbeats 4000000 in
theorem mo_rules_eq (s : mSt) : mo_rules s = (
  bV (mo_firstRules (wr (wr s 183 25 0) 183 21 0)) fun s1 =>
    bV (mo_next s1) fun s2 =>
      mo_rules_20 s2 0 : mO) := (EV_un 2000 181 0 [some (pA 183), none, none] [] s).trans rfl
set_option maxRecDepth 100000 in
set_option maxHeartbeats 4000000 in
theorem mo_rules_20_eq (s : mSt) (x1 : Int32) : mo_rules_20 s x1 = (
  if (s 183 25) = 0 then
    if (s 183 23) = 0 then
      mo_rules_44 s x1
    else
      bV (mo_readLine s) fun s1 =>
        mo_rules_20 s1 (x1 + 1)
  else
    mo_rules_44 s x1 : mO) := (EV_un 2000 181 20 [some (pA 183), some (pI x1), none] [] s).trans rfl
set_option maxRecDepth 100000 in
set_option maxHeartbeats 4000000 in
theorem mo_rules_44_eq (s : mSt) (x1 : Int32) : mo_rules_44 s x1 = (
  if (s 183 25) ≤ 0 then
    mo_rules_66 (wr s 183 20 0) x1 0
  else
    rI ((-10) - (s 183 26)) (wr s 183 20 0) : mO) := (EV_un 2000 181 44 [some (pA 183), some (pI x1), none] [] s).trans rfl
set_option maxRecDepth 100000 in
set_option maxHeartbeats 4000000 in
theorem mo_rules_66_eq (s : mSt) (x1 : Int32) (x2 : Int32) : mo_rules_66 s x1 x2 = (
  if (8 : Int32) ≤ x2 then
    mo_rules_100 (wr s 183 15 (s 183 17)) x1 0
  else
    gd (inb x2 8) (
      gd (inb x2 8) (
        mo_rules_66 (wr s 192 x2.toNatClampNeg (s 193 x2.toNatClampNeg)) x1 (x2 + 1))) : mO) := (EV_un 2000 181 66 [some (pA 183), some (pI x1), some (pI x2)] [] s).trans rfl
set_option maxRecDepth 100000 in
set_option maxHeartbeats 4000000 in
theorem mo_rules_100_eq (s : mSt) (x1 : Int32) (x2 : Int32) : mo_rules_100 s x1 x2 = (
  if (48 : Int32) ≤ x2 then
    rI x1 s
  else
    gd (inb x2 48) (
      gd (inb x2 48) (
        mo_rules_100 (wr s 195 x2.toNatClampNeg (s 196 x2.toNatClampNeg)) x1 (x2 + 1))) : mO) := (EV_un 2000 181 100 [some (pA 183), some (pI x1), some (pI x2)] [] s).trans rfl
set_option maxRecDepth 100000 in
set_option maxHeartbeats 4000000 in
theorem mo_fault_eq (s : mSt) : mo_fault s = (
  rI (s 183 25) s : mO) := (EV_un 2000 182 0 [some (pA 183)] [] s).trans rfl
set_option maxRecDepth 100000 in
set_option maxHeartbeats 4000000 in
theorem mo_rule_eq (s : mSt) (x1 : Int32) : mo_rule s x1 = (
  bI (mo_in s x1.toInt64 0 7) fun v1 s1 =>
    if v1 = 0 then
      if x1 = 8 then
        rI (s1 183 15) s1
      else
        rI (-1) s1
    else
      gd (inb x1 8) (
        rI (s1 192 x1.toNatClampNeg) s1) : mO) := (EV_un 2000 183 0 [some (pA 183), some (pI x1)] [] s).trans rfl
set_option maxRecDepth 100000 in
set_option maxHeartbeats 4000000 in
theorem mo_rent_eq (s : mSt) (x1 : Int32) (x2 : Int32) : mo_rent s x1 x2 = (
  bI (mo_in s x1.toInt64 0 ((s 183 15) - 1).toInt64) fun v1 s1 =>
    if v1 = 0 then
      rI (-1) s1
    else
      bI (mo_in s1 x2.toInt64 0 5) fun v2 s2 =>
        if v2 = 0 then
          rI (-1) s2
        else
          gd (inb ((6 * x1) + x2) 48) (
            rI (s2 195 (((6 * x1) + x2)).toNatClampNeg) s2) : mO) := (EV_un 2000 184 0 [some (pA 183), some (pI x1), some (pI x2)] [] s).trans rfl
set_option maxRecDepth 100000 in
set_option maxHeartbeats 4000000 in
theorem mo_demand_eq (s : mSt) (x1 : Int32) (x2 : Int32) (x3 : Int32) : mo_demand s x1 x2 x3 = (
  bI (mo_isLand s x1) fun v1 s1 =>
    if v1 = 0 then
      rI (-1) s1
    else
      bI (mo_isLand s1 x2) fun v2 s2 =>
        if v2 = 0 then
          rI (-1) s2
        else
          if x1 = x2 then
            rI (-1) s2
          else
            bI (mo_in s2 x3.toInt64 1 99) fun v3 s3 =>
              if v3 = 0 then
                rI (-1) s3
              else
                if (s3 183 27) = 12 then
                  rI (-3) s3
                else
                  gd (inb (s3 183 27) 12) (
                    gd (inb (s3 183 27) 12) (
                      gd (inb (s3 183 27) 12) (
                        rI (((s3 183 27) + 1) - 1) (wr (wr (wr (wr s3 198 ((s3 183 27)).toNatClampNeg x1) 199 ((s3 183 27)).toNatClampNeg x2) 200 ((s3 183 27)).toNatClampNeg x3) 183 27 ((s3 183 27) + 1))))) : mO) := (EV_un 2000 185 0 [some (pA 183), some (pI x1), some (pI x2), some (pI x3)] [] s).trans rfl
set_option maxRecDepth 100000 in
set_option maxHeartbeats 4000000 in
theorem mo_much_eq (s : mSt) (x1 : Int32) (x2 : Int32) : mo_much s x1 x2 = (
  bI (mo_isDemand s x1) fun v1 s1 =>
    if v1 = 0 then
      rI (-1) s1
    else
      bI (mo_in s1 x2.toInt64 0 99) fun v2 s2 =>
        if v2 = 0 then
          rI (-1) s2
        else
          gd (inb x1 12) (
            gd (inb x1 12) (
              rI (s2 200 x1.toNatClampNeg) (wr s2 200 x1.toNatClampNeg x2))) : mO) := (EV_un 2000 187 0 [some (pA 183), some (pI x1), some (pI x2), none] [] s).trans rfl
set_option maxRecDepth 100000 in
set_option maxHeartbeats 4000000 in
theorem mo_led_eq (s : mSt) (x1 : Int32) : mo_led s x1 = (
  bI (mo_in s x1.toInt64 0 2) fun v1 s1 =>
    if v1 = 0 then
      rI (-1) s1
    else
      bV (mo_roomsNow s1) fun s2 =>
        bI (mo_leads s2) fun v3 s3 =>
          mo_led_27 s3 x1 0 0 : mO) := (EV_un 2000 193 0 [some (pA 183), some (pI x1), none, none] [] s).trans rfl
set_option maxRecDepth 100000 in
set_option maxHeartbeats 4000000 in
theorem mo_led_27_eq (s : mSt) (x1 : Int32) (x2 : Int32) (x3 : Int32) : mo_led_27 s x1 x2 x3 = (
  if (s 183 27) ≤ x3 then
    if x1 = 0 then
      rI (x2 - (s 183 36)) s
    else
      if x1 = 1 then
        rI (s 183 36) s
      else
        rI (s 183 35) s
  else
    gd (inb x3 12) (
      mo_led_27 s x1 (x2 + (s 200 x3.toNatClampNeg)) (x3 + 1)) : mO) := (EV_un 2000 193 27 [some (pA 183), some (pI x1), some (pI x2), some (pI x3)] [] s).trans rfl
set_option maxRecDepth 100000 in
set_option maxHeartbeats 4000000 in
theorem mo_way_eq (s : mSt) (x1 : Int32) (x2 : Int32) : mo_way s x1 x2 = (
  bI (mo_isDemand s x1) fun v1 s1 =>
    if v1 = 0 then
      rI (-1) s1
    else
      if (0 : Int32) ≤ x2 then
        bV (mo_roomsNow s1) fun s2 =>
          bI (mo_leads s2) fun v3 s3 =>
            gd (inb x1 12) (
              if (s3 203 x1.toNatClampNeg) ≤ x2 then
                rI (-4) s3
              else
                gd (inb ((8 * x1) + x2) 96) (
                  rI (s3 204 (((8 * x1) + x2)).toNatClampNeg) s3))
      else
        rI (-1) s1 : mO) := (EV_un 2000 194 0 [some (pA 183), some (pI x1), some (pI x2)] [] s).trans rfl
set_option maxRecDepth 100000 in
set_option maxHeartbeats 4000000 in
theorem mo_parts_eq (s : mSt) (x1 : Int32) (x2 : Int32) (x3 : Int32) : mo_parts s x1 x2 x3 = (
  bI (mo_isLine s x1) fun v1 s1 =>
    if v1 = 0 then
      rI (-1) s1
    else
      bI (mo_isLine s1 x2) fun v2 s2 =>
        if v2 = 0 then
          rI (-1) s2
        else
          bI (mo_in s2 x3.toInt64 0 400) fun v3 s3 =>
            if v3 = 0 then
              rI (-1) s3
            else
              bV (mo_roomsNow s3) fun s4 =>
                bI (mo_partsBy s4 x1 x2 x3) fun v5 s5 =>
                  rI v5 s5 : mO) := (EV_un 2000 196 0 [some (pA 183), some (pI x1), some (pI x2), some (pI x3)] [] s).trans rfl
set_option maxRecDepth 100000 in
set_option maxHeartbeats 4000000 in
theorem mo_worst_eq (s : mSt) (x1 : Int32) (x2 : Int32) : mo_worst s x1 x2 = (
  bI (mo_in s x1.toInt64 0 400) fun v1 s1 =>
    if v1 = 0 then
      rI (-1) s1
    else
      bI (mo_in s1 x2.toInt64 0 1) fun v2 s2 =>
        if v2 = 0 then
          rI (-1) s2
        else
          bV (mo_roomsNow s2) fun s3 =>
            mo_worst_38 s3 x1 x2 (-4) (-4) 0 : mO) := (EV_un 2000 197 0 [some (pA 183), some (pI x1), some (pI x2), none, none, none, none, none] [] s).trans rfl
set_option maxRecDepth 100000 in
set_option maxHeartbeats 4000000 in
theorem mo_worst_38_eq (s : mSt) (x1 : Int32) (x2 : Int32) (x3 : Int32) (x4 : Int32) (x5 : Int32) : mo_worst_38 s x1 x2 x3 x4 x5 = (
  if (s 183 3) ≤ x5 then
    if x2 = 0 then
      rI x3 s
    else
      rI x4 s
  else
    mo_worst_53 s x1 x2 x3 x4 x5 (x5 + 1) : mO) := (EV_un 2000 197 38 [some (pA 183), some (pI x1), some (pI x2), some (pI x3), some (pI x4), some (pI x5), none, none] [] s).trans rfl
set_option maxRecDepth 100000 in
set_option maxHeartbeats 4000000 in
theorem mo_worst_53_eq (s : mSt) (x1 : Int32) (x2 : Int32) (x3 : Int32) (x4 : Int32) (x5 : Int32) (x6 : Int32) : mo_worst_53 s x1 x2 x3 x4 x5 x6 = (
  if (s 183 3) ≤ x6 then
    mo_worst_38 s x1 x2 x3 x4 (x5 + 1)
  else
    bI (mo_partsBy s x5 x6 x1) fun v1 s1 =>
      if v1 ≤ x4 then
        mo_worst_92 s1 x1 x2 x4 x5 x6 v1 x3
      else
        mo_worst_92 s1 x1 x2 x4 x5 x6 v1 ((100 * x5) + x6) : mO) := (EV_un 2000 197 53 [some (pA 183), some (pI x1), some (pI x2), some (pI x3), some (pI x4), some (pI x5), some (pI x6), none] [] s).trans rfl
set_option maxRecDepth 100000 in
set_option maxHeartbeats 4000000 in
theorem mo_worst_92_eq (s : mSt) (x1 : Int32) (x2 : Int32) (x4 : Int32) (x5 : Int32) (x6 : Int32) (x7 : Int32) (t0 : Int32) : mo_worst_92 s x1 x2 x4 x5 x6 x7 t0 = (
  if x7 ≤ x4 then
    mo_worst_53 s x1 x2 t0 x4 x5 (x6 + 1)
  else
    mo_worst_53 s x1 x2 t0 x7 x5 (x6 + 1) : mO) := (EV_un 2000 197 92 [some (pA 183), some (pI x1), some (pI x2), none, some (pI x4), some (pI x5), some (pI x6), some (pI x7)] [(pI t0)] s).trans rfl
set_option maxRecDepth 100000 in
set_option maxHeartbeats 4000000 in
theorem mo_swing_eq (s : mSt) (x1 : Int32) (x2 : Int32) (x3 : Int32) : mo_swing s x1 x2 x3 = (
  bI (mo_in s x1.toInt64 0 60) fun v1 s1 =>
    if v1 = 0 then
      rI (-1) s1
    else
      bI (mo_isDemand s1 x2) fun v2 s2 =>
        if v2 = 0 then
          rI (-1) s2
        else
          if (0 : Int32) ≤ x3 then
            bV (mo_roomsNow s2) fun s3 =>
              mo_swing_33 s3 x1 x2 x3 0
          else
            rI (-1) s2 : mO) := (EV_un 2000 199 0 [some (pA 183), some (pI x1), some (pI x2), some (pI x3), none] [] s).trans rfl
set_option maxRecDepth 100000 in
set_option maxHeartbeats 4000000 in
theorem mo_swing_33_eq (s : mSt) (x1 : Int32) (x2 : Int32) (x3 : Int32) (x4 : Int32) : mo_swing_33 s x1 x2 x3 x4 = (
  if x1 < x4 then
    gd (inb x2 12) (
      if (s 203 x2.toNatClampNeg) ≤ x3 then
        rI (-4) s
      else
        gd (inb ((8 * x2) + x3) 96) (
          rI (s 204 (((8 * x2) + x3)).toNatClampNeg) s))
  else
    bV (mo_swingsOnce s x4) fun s1 =>
      mo_swing_33 s1 x1 x2 x3 (x4 + 1) : mO) := (EV_un 2000 199 33 [some (pA 183), some (pI x1), some (pI x2), some (pI x3), some (pI x4)] [] s).trans rfl
set_option maxRecDepth 100000 in
set_option maxHeartbeats 4000000 in
theorem mo_swings_eq (s : mSt) (x1 : Int32) : mo_swings s x1 = (
  bI (mo_in s x1.toInt64 0 3) fun v1 s1 =>
    if v1 = 0 then
      rI (-1) s1
    else
      bV (mo_roomsNow s1) fun s2 =>
        mo_swings_20 s2 x1 0 : mO) := (EV_un 2000 201 0 [some (pA 183), some (pI x1), none, none, none, none, none, none] [] s).trans rfl
set_option maxRecDepth 100000 in
set_option maxHeartbeats 4000000 in
theorem mo_swings_20_eq (s : mSt) (x1 : Int32) (x2 : Int32) : mo_swings_20 s x1 x2 = (
  if (60 : Int32) < x2 then
    rI (-6) s
  else
    bV (mo_swingsOnce s x2) fun s1 =>
      mo_swings_33 s1 x1 x2 0 : mO) := (EV_un 2000 201 20 [some (pA 183), some (pI x1), some (pI x2), none, none, none, none, none] [] s).trans rfl
set_option maxRecDepth 100000 in
set_option maxHeartbeats 4000000 in
theorem mo_swings_33_eq (s : mSt) (x1 : Int32) (x2 : Int32) (x3 : Int32) : mo_swings_33 s x1 x2 x3 = (
  if x2 ≤ x3 then
    mo_swings_20 s x1 (x2 + 1)
  else
    bI (mo_areAlike s x3 x2) fun v1 s1 =>
      if v1 = 0 then
        mo_swings_33 s1 x1 x2 (x3 + 1)
      else
        mo_swings_56 s1 x1 x2 x3 0 0 x3 : mO) := (EV_un 2000 201 33 [some (pA 183), some (pI x1), some (pI x2), some (pI x3), none, none, none, none] [] s).trans rfl
set_option maxRecDepth 100000 in
set_option maxHeartbeats 4000000 in
theorem mo_swings_56_eq (s : mSt) (x1 : Int32) (x2 : Int32) (x3 : Int32) (x4 : Int32) (x5 : Int32) (x6 : Int32) : mo_swings_56 s x1 x2 x3 x4 x5 x6 = (
  if x2 ≤ x6 then
    if x1 = 0 then
      rI x3 s
    else
      if x1 = 1 then
        rI (x2 - x3) s
      else
        if x1 = 2 then
          rI x4 s
        else
          rI x5 s
  else
    mo_swings_65 s x1 x2 x3 x4 x5 x6 0 : mO) := (EV_un 2000 201 56 [some (pA 183), some (pI x1), some (pI x2), some (pI x3), some (pI x4), some (pI x5), some (pI x6), none] [] s).trans rfl
set_option maxRecDepth 100000 in
set_option maxHeartbeats 4000000 in
theorem mo_swings_65_eq (s : mSt) (x1 : Int32) (x2 : Int32) (x3 : Int32) (x4 : Int32) (x5 : Int32) (x6 : Int32) (x7 : Int32) : mo_swings_65 s x1 x2 x3 x4 x5 x6 x7 = (
  if (s 183 3) ≤ x7 then
    mo_swings_56 s x1 x2 x3 x4 x5 (x6 + 1)
  else
    gd (inb ((12 * x6) + x7) 732) (
      if (s 208 (((12 * x6) + x7)).toNatClampNeg) ≤ x4 then
        mo_swings_110 s x1 x2 x3 x5 x6 x7 x4
      else
        gd (inb ((12 * x6) + x7) 732) (
          mo_swings_110 s x1 x2 x3 x5 x6 x7 (s 208 (((12 * x6) + x7)).toNatClampNeg))) : mO) := (EV_un 2000 201 65 [some (pA 183), some (pI x1), some (pI x2), some (pI x3), some (pI x4), some (pI x5), some (pI x6), some (pI x7)] [] s).trans rfl
set_option maxRecDepth 100000 in
set_option maxHeartbeats 4000000 in
theorem mo_swings_110_eq (s : mSt) (x1 : Int32) (x2 : Int32) (x3 : Int32) (x5 : Int32) (x6 : Int32) (x7 : Int32) (t0 : Int32) : mo_swings_110 s x1 x2 x3 x5 x6 x7 t0 = (
  gd (inb ((12 * x6) + x7) 732) (
    gd (inb x7 12) (
      if (s 208 (((12 * x6) + x7)).toNatClampNeg) ≤ (s 201 x7.toNatClampNeg) then
        mo_swings_65 s x1 x2 x3 t0 (x5 ||| 0) x6 (x7 + 1)
      else
        mo_swings_65 s x1 x2 x3 t0 (x5 ||| (1 <<< (x7 &&& 31))) x6 (x7 + 1))) : mO) := (EV_un 2000 201 110 [some (pA 183), some (pI x1), some (pI x2), some (pI x3), none, some (pI x5), some (pI x6), some (pI x7)] [(pI t0)] s).trans rfl
set_option maxRecDepth 100000 in
set_option maxHeartbeats 4000000 in
theorem mo_cut_eq (s : mSt) (x1 : Int32) (x2 : Int32) : mo_cut s x1 x2 = (
  bI (mo_isLine s x1) fun v1 s1 =>
    if v1 = 0 then
      rI (-1) s1
    else
      bI (mo_in s1 x2.toInt64 0 (s1 183 11).toInt64) fun v2 s2 =>
        if v2 = 0 then
          rI (-1) s2
        else
          if (s2 183 41) = 8 then
            rI (-3) s2
          else
            gd (inb (s2 183 41) 8) (
              gd (inb (s2 183 41) 8) (
                gd (inb (s2 183 41) 8) (
                  gd (inb (s2 183 41) 8) (
                    bI (mo_lengthOf (wr (wr (wr (wr s2 209 ((s2 183 41)).toNatClampNeg x1) 210 ((s2 183 41)).toNatClampNeg x2) 211 ((s2 183 41)).toNatClampNeg (s2 183 11)) 212 ((s2 183 41)).toNatClampNeg 0) x1) fun v3 s3 =>
                      gd (inb (s2 183 41) 8) (
                        gd (inb (s3 183 41) 8) (
                          gd (inb (s3 183 41) 8) (
                            rI (((s3 183 41) + 1) - 1) (wr (wr (wr (wr s3 213 ((s2 183 41)).toNatClampNeg v3) 214 ((s3 183 41)).toNatClampNeg (-4)) 215 ((s3 183 41)).toNatClampNeg (-4)) 183 41 ((s3 183 41) + 1))))))))) : mO) := (EV_un 2000 203 0 [some (pA 183), some (pI x1), some (pI x2)] [] s).trans rfl
set_option maxRecDepth 100000 in
set_option maxHeartbeats 4000000 in
theorem mo_echo_eq (s : mSt) (x1 : Int32) (x2 : Int32) (x3 : Int32) (x4 : Int32) : mo_echo s x1 x2 x3 x4 = (
  bI (mo_isBreak s x1) fun v1 s1 =>
    if v1 = 0 then
      rI (-1) s1
    else
      bI (mo_in s1 x2.toInt64 0 1) fun v2 s2 =>
        if v2 = 0 then
          rI (-1) s2
        else
          bI (mo_in s2 x3.toInt64 0 198) fun v3 s3 =>
            if v3 = 0 then
              rI (-1) s3
            else
              bI (mo_in s3 x4.toInt64 0 20) fun v4 s4 =>
                if v4 = 0 then
                  rI (-1) s4
                else
                  gd (inb x1 8) (
                    bI (mo_lengthOf s4 (s4 209 x1.toNatClampNeg)) fun v5 s5 =>
                      if x2 = 0 then
                        mo_echo_75 s5 x1 x2 x3 x4 v5 (x3 - x4)
                      else
                        mo_echo_75 s5 x1 x2 x3 x4 v5 ((v5 - x3) - x4)) : mO) := (EV_un 2000 204 0 [some (pA 183), some (pI x1), some (pI x2), some (pI x3), some (pI x4), none, none, none] [] s).trans rfl
set_option maxRecDepth 100000 in
set_option maxHeartbeats 4000000 in
theorem mo_echo_75_eq (s : mSt) (x1 : Int32) (x2 : Int32) (x3 : Int32) (x4 : Int32) (x5 : Int32) (t0 : Int32) : mo_echo_75 s x1 x2 x3 x4 x5 t0 = (
  if x2 = 0 then
    mo_echo_95 s x1 t0 (x3 + x4)
  else
    mo_echo_95 s x1 t0 ((x5 - x3) + x4) : mO) := (EV_un 2000 204 75 [some (pA 183), some (pI x1), some (pI x2), some (pI x3), some (pI x4), some (pI x5), none, none] [(pI t0)] s).trans rfl
set_option maxRecDepth 100000 in
set_option maxHeartbeats 4000000 in
theorem mo_echo_95_eq (s : mSt) (x1 : Int32) (x6 : Int32) (t0 : Int32) : mo_echo_95 s x1 x6 t0 = (
  gd (inb x1 8) (
    if x6 ≤ (s 212 x1.toNatClampNeg) then
      gd (inb x1 8) (
        mo_echo_119 s x1 t0 (s 212 x1.toNatClampNeg))
    else
      mo_echo_119 s x1 t0 x6) : mO) := (EV_un 2000 204 95 [some (pA 183), some (pI x1), none, none, none, none, some (pI x6), none] [(pI t0)] s).trans rfl
set_option maxRecDepth 100000 in
set_option maxHeartbeats 4000000 in
theorem mo_echo_119_eq (s : mSt) (x1 : Int32) (x7 : Int32) (t0 : Int32) : mo_echo_119 s x1 x7 t0 = (
  gd (inb x1 8) (
    if (s 213 x1.toNatClampNeg) ≤ x7 then
      gd (inb x1 8) (
        mo_echo_143 s x1 t0 (s 213 x1.toNatClampNeg))
    else
      mo_echo_143 s x1 t0 x7) : mO) := (EV_un 2000 204 119 [some (pA 183), some (pI x1), none, none, none, none, none, some (pI x7)] [(pI t0)] s).trans rfl
set_option maxRecDepth 100000 in
set_option maxHeartbeats 4000000 in
theorem mo_echo_143_eq (s : mSt) (x1 : Int32) (x6 : Int32) (t0 : Int32) : mo_echo_143 s x1 x6 t0 = (
  if t0 < x6 then
    rI (-2) s
  else
    gd (inb x1 8) (
      if (s 214 x1.toNatClampNeg) = (-4) then
        gd (inb x1 8) (
          gd (inb x1 8) (
            rI ((t0 - x6) + 1) (wr (wr s 212 x1.toNatClampNeg x6) 213 x1.toNatClampNeg t0)))
      else
        rI (-2) s) : mO) := (EV_un 2000 204 143 [some (pA 183), some (pI x1), none, none, none, none, some (pI x6), none] [(pI t0)] s).trans rfl
set_option maxRecDepth 100000 in
set_option maxHeartbeats 4000000 in
theorem mo_breakOf_eq (s : mSt) (x1 : Int32) (x2 : Int32) : mo_breakOf s x1 x2 = (
  bI (mo_isBreak s x1) fun v1 s1 =>
    if v1 = 0 then
      rI (-1) s1
    else
      bI (mo_in s1 x2.toInt64 0 10) fun v2 s2 =>
        if v2 = 0 then
          rI (-1) s2
        else
          if x2 = 0 then
            gd (inb x1 8) (
              rI (s2 209 x1.toNatClampNeg) s2)
          else
          if x2 = 1 then
            gd (inb x1 8) (
              rI (s2 210 x1.toNatClampNeg) s2)
          else
          if x2 = 2 then
            gd (inb x1 8) (
              rI (s2 211 x1.toNatClampNeg) s2)
          else
          if x2 = 3 then
            gd (inb x1 8) (
              gd (inb x1 8) (
                rI (((s2 213 x1.toNatClampNeg) - (s2 212 x1.toNatClampNeg)) + 1) s2))
          else
          if x2 = 4 then
            gd (inb x1 8) (
              rI (s2 212 x1.toNatClampNeg) s2)
          else
          if x2 = 5 then
            gd (inb x1 8) (
              rI (s2 213 x1.toNatClampNeg) s2)
          else
          if x2 = 6 then
            gd (inb x1 8) (
              rI (s2 214 x1.toNatClampNeg) s2)
          else
          if x2 = 7 then
            gd (inb x1 8) (
              rI (s2 215 x1.toNatClampNeg) s2)
          else
          if x2 = 8 then
            bI (mo_isOpen s2 x1) fun v3 s3 =>
              if v3 = 0 then
                rI 0 s3
              else
                rI 1 s3
          else
          if x2 = 9 then
            gd (inb x1 8) (
              gd (inb x1 8) (
                bI (mo_xAt s2 (s2 209 x1.toNatClampNeg) (s2 212 x1.toNatClampNeg)) fun v4 s4 =>
                  rI v4 s4))
          else
            gd (inb x1 8) (
              gd (inb x1 8) (
                bI (mo_yAt s2 (s2 209 x1.toNatClampNeg) (s2 212 x1.toNatClampNeg)) fun v5 s5 =>
                  rI v5 s5)) : mO) := (EV_un 2000 207 0 [some (pA 183), some (pI x1), some (pI x2)] [] s).trans rfl
set_option maxRecDepth 100000 in
set_option maxHeartbeats 4000000 in
theorem mo_quake_eq (s : mSt) (x1 : Int32) (x2 : Int32) (x3 : Int32) (x4 : Int32) : mo_quake s x1 x2 x3 x4 = (
  bI (mo_in s x1.toInt64 0 99) fun v1 s1 =>
    if v1 = 0 then
      rI (-1) s1
    else
      bI (mo_in s1 x2.toInt64 0 99) fun v2 s2 =>
        if v2 = 0 then
          rI (-1) s2
        else
          bI (mo_in s2 x3.toInt64 0 99) fun v3 s3 =>
            if v3 = 0 then
              rI (-1) s3
            else
              bI (mo_in s3 x4.toInt64 0 999) fun v4 s4 =>
                if v4 = 0 then
                  rI (-1) s4
                else
                  mo_quake_57 s4 x1 x2 x3 x4 0 0 : mO) := (EV_un 2000 208 0 [some (pA 183), some (pI x1), some (pI x2), some (pI x3), some (pI x4), none, none, none, none] [] s).trans rfl
set_option maxRecDepth 100000 in
set_option maxHeartbeats 4000000 in
theorem mo_quake_57_eq (s : mSt) (x1 : Int32) (x2 : Int32) (x3 : Int32) (x4 : Int32) (x5 : Int32) (x6 : Int32) : mo_quake_57 s x1 x2 x3 x4 x5 x6 = (
  if (s 183 41) ≤ x6 then
    rI x5 s
  else
    gd (inb x6 8) (
      mo_quake_75 s x1 x2 x3 x4 x5 x6 (s 212 x6.toNatClampNeg)) : mO) := (EV_un 2000 208 57 [some (pA 183), some (pI x1), some (pI x2), some (pI x3), some (pI x4), some (pI x5), some (pI x6), none, none] [] s).trans rfl
set_option maxRecDepth 100000 in
set_option maxHeartbeats 4000000 in
theorem mo_quake_75_eq (s : mSt) (x1 : Int32) (x2 : Int32) (x3 : Int32) (x4 : Int32) (x5 : Int32) (x6 : Int32) (x7 : Int32) : mo_quake_75 s x1 x2 x3 x4 x5 x6 x7 = (
  gd (inb x6 8) (
    if (s 213 x6.toNatClampNeg) < x7 then
      mo_quake_57 s x1 x2 x3 x4 x5 (x6 + 1)
    else
      gd (inb x6 8) (
        bI (mo_in s (s 210 x6.toNatClampNeg).toInt64 x4.toInt64 (x4 + 2).toInt64) fun v1 s1 =>
          if v1 = 0 then
            mo_quake_57 s1 x1 x2 x3 x4 x5 (x6 + 1)
          else
            gd (inb x6 8) (
              bI (mo_xAt s1 (s1 209 x6.toNatClampNeg) x7) fun v2 s2 =>
                bI (mo_plain1 s2 (v2 - x1)) fun v3 s3 =>
                  gd (inb x6 8) (
                    bI (mo_yAt s3 (s3 209 x6.toNatClampNeg) x7) fun v4 s4 =>
                      bI (mo_plain1 s4 (v4 - x2)) fun v5 s5 =>
                        if x3 < (v3 + v5) then
                          mo_quake_75 s5 x1 x2 x3 x4 (x5 ||| 0) x6 (x7 + 1)
                        else
                          mo_quake_75 s5 x1 x2 x3 x4 (x5 ||| (1 <<< (x6 &&& 31))) x6 (x7 + 1))))) : mO) := (EV_un 2000 208 75 [some (pA 183), some (pI x1), some (pI x2), some (pI x3), some (pI x4), some (pI x5), some (pI x6), some (pI x7), none] [] s).trans rfl
set_option maxRecDepth 100000 in
set_option maxHeartbeats 4000000 in
theorem mo_shared_eq (s : mSt) (x1 : Int32) (x2 : Int32) (x3 : Int32) : mo_shared s x1 x2 x3 = (
  bI (mo_isBreak s x1) fun v1 s1 =>
    if v1 = 0 then
      rI (-1) s1
    else
      bI (mo_isBreak s1 x2) fun v2 s2 =>
        if v2 = 0 then
          rI (-1) s2
        else
          if x1 = x2 then
            rI (-1) s2
          else
            bI (mo_in s2 x3.toInt64 0 99) fun v3 s3 =>
              if v3 = 0 then
                rI (-1) s3
              else
                gd (inb x1 8) (
                  mo_shared_46 s3 x1 x2 x3 0 (s3 212 x1.toNatClampNeg)) : mO) := (EV_un 2000 209 0 [some (pA 183), some (pI x1), some (pI x2), some (pI x3), none, none, none, none] [] s).trans rfl
set_option maxRecDepth 100000 in
set_option maxHeartbeats 4000000 in
theorem mo_shared_46_eq (s : mSt) (x1 : Int32) (x2 : Int32) (x3 : Int32) (x4 : Int32) (x5 : Int32) : mo_shared_46 s x1 x2 x3 x4 x5 = (
  gd (inb x1 8) (
    if (s 213 x1.toNatClampNeg) < x5 then
      if x4 = 0 then
        rI 0 s
      else
        rI 1 s
    else
      gd (inb x1 8) (
        gd (inb x2 8) (
          bI (mo_plain1 s ((s 210 x1.toNatClampNeg) - (s 210 x2.toNatClampNeg))) fun v1 s1 =>
            if (2 : Int32) < v1 then
              if x4 = 0 then
                rI 0 s1
              else
                rI 1 s1
            else
              gd (inb x2 8) (
                mo_shared_85 s1 x1 x2 x3 x4 x5 (s1 212 x2.toNatClampNeg))))) : mO) := (EV_un 2000 209 46 [some (pA 183), some (pI x1), some (pI x2), some (pI x3), some (pI x4), some (pI x5), none, none] [] s).trans rfl
set_option maxRecDepth 100000 in
set_option maxHeartbeats 4000000 in
theorem mo_shared_85_eq (s : mSt) (x1 : Int32) (x2 : Int32) (x3 : Int32) (x4 : Int32) (x5 : Int32) (x6 : Int32) : mo_shared_85 s x1 x2 x3 x4 x5 x6 = (
  gd (inb x2 8) (
    if (s 213 x2.toNatClampNeg) < x6 then
      mo_shared_46 s x1 x2 x3 x4 (x5 + 1)
    else
      gd (inb x1 8) (
        bI (mo_xAt s (s 209 x1.toNatClampNeg) x5) fun v1 s1 =>
          gd (inb x2 8) (
            bI (mo_xAt s1 (s1 209 x2.toNatClampNeg) x6) fun v2 s2 =>
              bI (mo_plain1 s2 (v1 - v2)) fun v3 s3 =>
                gd (inb x1 8) (
                  bI (mo_yAt s3 (s3 209 x1.toNatClampNeg) x5) fun v4 s4 =>
                    gd (inb x2 8) (
                      bI (mo_yAt s4 (s4 209 x2.toNatClampNeg) x6) fun v5 s5 =>
                        bI (mo_plain1 s5 (v4 - v5)) fun v6 s6 =>
                          if x4 = 0 then
                            if (2 * x3) < (v3 + v6) then
                              mo_shared_85 s6 x1 x2 x3 0 x5 (x6 + 1)
                            else
                              mo_shared_85 s6 x1 x2 x3 1 x5 (x6 + 1)
                          else
                            mo_shared_85 s6 x1 x2 x3 1 x5 (x6 + 1)))))) : mO) := (EV_un 2000 209 85 [some (pA 183), some (pI x1), some (pI x2), some (pI x3), some (pI x4), some (pI x5), some (pI x6), none] [] s).trans rfl
set_option maxRecDepth 100000 in
set_option maxHeartbeats 4000000 in
theorem mo_ship_eq (s : mSt) (x1 : Int32) (x2 : Int32) (x3 : Int32) : mo_ship s x1 x2 x3 = (
  bI (mo_isLand s x1) fun v1 s1 =>
    if v1 = 0 then
      rI (-1) s1
    else
      bI (mo_in s1 x2.toInt64 0 99) fun v2 s2 =>
        if v2 = 0 then
          rI (-1) s2
        else
          bI (mo_in s2 x3.toInt64 0 3) fun v3 s3 =>
            if v3 = 0 then
              rI (-1) s3
            else
              if (s3 183 49) = 3 then
                rI (-3) s3
              else
                gd (inb x1 8) (
                  gd (inb (s3 183 49) 3) (
                    gd (inb x1 8) (
                      gd (inb (s3 183 49) 3) (
                        gd (inb (s3 183 49) 3) (
                          gd (inb (s3 183 49) 3) (
                            gd (inb (s3 183 49) 3) (
                              rI (((s3 183 49) + 1) - 1) (wr (wr (wr (wr (wr (wr s3 216 ((s3 183 49)).toNatClampNeg (s3 184 x1.toNatClampNeg)) 217 ((s3 183 49)).toNatClampNeg (s3 185 x1.toNatClampNeg)) 218 ((s3 183 49)).toNatClampNeg x2) 219 ((s3 183 49)).toNatClampNeg x3) 220 ((s3 183 49)).toNatClampNeg 0) 183 49 ((s3 183 49) + 1))))))))) : mO) := (EV_un 2000 210 0 [some (pA 183), some (pI x1), some (pI x2), some (pI x3)] [] s).trans rfl
set_option maxRecDepth 100000 in
set_option maxHeartbeats 4000000 in
theorem mo_shipOf_eq (s : mSt) (x1 : Int32) (x2 : Int32) : mo_shipOf s x1 x2 = (
  bI (mo_isShip s x1) fun v1 s1 =>
    if v1 = 0 then
      rI (-1) s1
    else
      bI (mo_in s1 x2.toInt64 0 4) fun v2 s2 =>
        if v2 = 0 then
          rI (-1) s2
        else
          if x2 = 0 then
            gd (inb x1 3) (
              rI (s2 216 x1.toNatClampNeg) s2)
          else
            if x2 = 1 then
              gd (inb x1 3) (
                rI (s2 217 x1.toNatClampNeg) s2)
            else
              if x2 = 2 then
                gd (inb x1 3) (
                  rI (s2 218 x1.toNatClampNeg) s2)
              else
                if x2 = 3 then
                  gd (inb x1 3) (
                    rI (s2 219 x1.toNatClampNeg) s2)
                else
                  gd (inb x1 3) (
                    rI (s2 220 x1.toNatClampNeg) s2) : mO) := (EV_un 2000 212 0 [some (pA 183), some (pI x1), some (pI x2)] [] s).trans rfl
set_option maxRecDepth 100000 in
set_option maxHeartbeats 4000000 in
theorem mo_send_eq (s : mSt) (x1 : Int32) (x2 : Int32) : mo_send s x1 x2 = (
  bI (mo_isShip s x1) fun v1 s1 =>
    if v1 = 0 then
      rI (-1) s1
    else
      bI (mo_isBreak s1 x2) fun v2 s2 =>
        if v2 = 0 then
          rI (-1) s2
        else
          bI (mo_isOpen s2 x2) fun v3 s3 =>
            if v3 = 0 then
              rI (-2) s3
            else
              gd (inb x2 8) (
                if (s3 215 x2.toNatClampNeg) = (-4) then
                  bI (mo_mayDo s3 x1 x2) fun v4 s4 =>
                    if v4 = 0 then
                      rI (-2) s4
                    else
                      gd (inb x1 3) (
                        bI (mo_takesReel s4 x2) fun v5 s5 =>
                          if v5 ≤ (s4 218 x1.toNatClampNeg) then
                            bI (mo_startOf s5 x1) fun v6 s6 =>
                              gd (inb x1 3) (
                                gd (inb x1 3) (
                                  bI (mo_hoursTo s6 (s6 216 x1.toNatClampNeg) (s6 217 x1.toNatClampNeg) x2) fun v7 s7 =>
                                    gd (inb x2 8) (
                                      gd (inb x2 8) (
                                        gd (inb x1 3) (
                                          bI (mo_takesReel (wr (wr s7 214 x2.toNatClampNeg (v6 + v7)) 215 x2.toNatClampNeg x1) x2) fun v8 s8 =>
                                            gd (inb x1 3) (
                                              gd (inb x2 8) (
                                                gd (inb x2 8) (
                                                  bI (mo_xAt (wr s8 218 x1.toNatClampNeg ((s7 218 x1.toNatClampNeg) - v8)) (s8 209 x2.toNatClampNeg) (s8 212 x2.toNatClampNeg)) fun v9 s9 =>
                                                    gd (inb x1 3) (
                                                      gd (inb x2 8) (
                                                        gd (inb x2 8) (
                                                          bI (mo_yAt (wr s9 216 x1.toNatClampNeg v9) (s9 209 x2.toNatClampNeg) (s9 212 x2.toNatClampNeg)) fun v10 s10 =>
                                                            gd (inb x1 3) (
                                                              gd (inb x2 8) (
                                                                gd (inb x1 3) (
                                                                  gd (inb x2 8) (
                                                                    rI (s10 214 x2.toNatClampNeg) (wr (wr s10 217 x1.toNatClampNeg v10) 220 x1.toNatClampNeg (s10 214 x2.toNatClampNeg)))))))))))))))))
                          else
                            rI (-2) s5)
                else
                  rI (-2) s3) : mO) := (EV_un 2000 217 0 [some (pA 183), some (pI x1), some (pI x2)] [] s).trans rfl
set_option maxRecDepth 100000 in
set_option maxHeartbeats 4000000 in
theorem mo_order_eq (s : mSt) (x1 : Int32) : mo_order s x1 = (
  bI (mo_in s x1.toInt64 0 1) fun v1 s1 =>
    if v1 = 0 then
      if x1 < 10 then
        rI (-1) s1
      else
        bI (mo_isBreak s1 (x1 - 10)) fun v2 s2 =>
          if v2 = 0 then
            rI (-1) s2
          else
            mo_order_29 s2 x1
    else
      mo_order_29 s1 x1 : mO) := (EV_un 2000 223 0 [some (pA 183), some (pI x1), none, none, none] [] s).trans rfl
set_option maxRecDepth 100000 in
set_option maxHeartbeats 4000000 in
theorem mo_order_29_eq (s : mSt) (x1 : Int32) : mo_order_29 s x1 = (
  bV (mo_findListed s) fun s1 =>
    if (s1 183 56) ≤ 7 then
      mo_order_49 s1 x1 0 0
    else
      rI (-2) s1 : mO) := (EV_un 2000 223 29 [some (pA 183), some (pI x1), none, none, none] [] s).trans rfl
set_option maxRecDepth 100000 in
set_option maxHeartbeats 4000000 in
theorem mo_order_49_eq (s : mSt) (x1 : Int32) (x2 : Int32) (x3 : Int32) : mo_order_49 s x1 x2 x3 = (
  if (s 183 56) ≤ x3 then
    if x1 = 1 then
      rI x2 s
    else
      bI (mo_findOrder s) fun v1 s1 =>
        if v1 = 0 then
          rI (-4) s1
        else
          if x1 = 0 then
            rI (s1 183 60) s1
          else
            mo_order_106 s1 x1 (-4) 0
  else
    gd (inb x3 8) (
      mo_order_49 s x1 (x2 ||| (1 <<< ((s 221 x3.toNatClampNeg) &&& 31))) (x3 + 1)) : mO) := (EV_un 2000 223 49 [some (pA 183), some (pI x1), some (pI x2), some (pI x3), none] [] s).trans rfl
set_option maxRecDepth 100000 in
set_option maxHeartbeats 4000000 in
theorem mo_order_106_eq (s : mSt) (x1 : Int32) (x3 : Int32) (x4 : Int32) : mo_order_106 s x1 x3 x4 = (
  if (s 183 56) ≤ x4 then
    rI x3 s
  else
    gd (inb x4 8) (
      if (s 221 x4.toNatClampNeg) = (x1 - 10) then
        gd (inb x4 8) (
          mo_order_106 s x1 (s 225 x4.toNatClampNeg) (x4 + 1))
      else
        mo_order_106 s x1 x3 (x4 + 1)) : mO) := (EV_un 2000 223 106 [some (pA 183), some (pI x1), none, some (pI x3), some (pI x4)] [] s).trans rfl
set_option maxRecDepth 100000 in
set_option maxHeartbeats 4000000 in
theorem mo_plain_eq (s : mSt) (x1 : Int32) : mo_plain s x1 = (
  bI (mo_in s x1.toInt64 0 1) fun v1 s1 =>
    if v1 = 0 then
      rI (-1) s1
    else
      bV (mo_findListed s1) fun s2 =>
        if (s2 183 56) ≤ 7 then
          mo_plain_30 s2 x1 0
        else
          rI (-2) s2 : mO) := (EV_un 2000 224 0 [some (pA 183), some (pI x1), none, none, none, none, none, none, none, none, none] [] s).trans rfl
set_option maxRecDepth 100000 in
set_option maxHeartbeats 4000000 in
theorem mo_plain_30_eq (s : mSt) (x1 : Int32) (x2 : Int32) : mo_plain_30 s x1 x2 = (
  if (s 183 49) ≤ x2 then
    mo_plain_105 s x1 0 0 1
  else
    gd (inb x2 3) (
      gd (inb x2 3) (
        gd (inb x2 3) (
          gd (inb x2 3) (
            gd (inb x2 3) (
              gd (inb x2 3) (
                bI (mo_startOf (wr (wr (wr s 226 x2.toNatClampNeg (s 216 x2.toNatClampNeg)) 227 x2.toNatClampNeg (s 217 x2.toNatClampNeg)) 228 x2.toNatClampNeg (s 218 x2.toNatClampNeg)) x2) fun v1 s1 =>
                  gd (inb x2 3) (
                    gd (inb x2 3) (
                      mo_plain_30 (wr (wr s1 229 x2.toNatClampNeg v1) 230 x2.toNatClampNeg 0) x1 (x2 + 1))))))))) : mO) := (EV_un 2000 224 30 [some (pA 183), some (pI x1), some (pI x2), none, none, none, none, none, none, none, none] [] s).trans rfl
set_option maxRecDepth 100000 in
set_option maxHeartbeats 4000000 in
theorem mo_plain_105_eq (s : mSt) (x1 : Int32) (x2 : Int32) (x3 : Int32) (x4 : Int32) : mo_plain_105 s x1 x2 x3 x4 = (
  if x4 = 0 then
    if x1 = 0 then
      rI x3 s
    else
      bI (mo_bits s x2) fun v1 s1 =>
        rI ((s 183 56) - v1) s1
  else
    mo_plain_117 s x1 x2 x3 (-4) 0 : mO) := (EV_un 2000 224 105 [some (pA 183), some (pI x1), some (pI x2), some (pI x3), some (pI x4), none, none, none, none, none, none] [] s).trans rfl
set_option maxRecDepth 100000 in
set_option maxHeartbeats 4000000 in
theorem mo_plain_117_eq (s : mSt) (x1 : Int32) (x2 : Int32) (x3 : Int32) (x5 : Int32) (x6 : Int32) : mo_plain_117 s x1 x2 x3 x5 x6 = (
  if (s 183 49) ≤ x6 then
    if x5 = (-4) then
      mo_plain_201 s x1 x2 x3 0 x5 (-4) 1000000 0
    else
      mo_plain_201 s x1 x2 x3 1 x5 (-4) 1000000 0
  else
    gd (inb x6 3) (
      if (s 230 x6.toNatClampNeg) = 0 then
        if x5 = (-4) then
          mo_plain_117 s x1 x2 x3 x6 (x6 + 1)
        else
          gd (inb x6 3) (
            gd (inb x5 3) (
              if (s 229 x5.toNatClampNeg) ≤ (s 229 x6.toNatClampNeg) then
                mo_plain_117 s x1 x2 x3 x5 (x6 + 1)
              else
                mo_plain_117 s x1 x2 x3 x6 (x6 + 1)))
      else
        mo_plain_117 s x1 x2 x3 x5 (x6 + 1)) : mO) := (EV_un 2000 224 117 [some (pA 183), some (pI x1), some (pI x2), some (pI x3), none, some (pI x5), some (pI x6), none, none, none, none] [] s).trans rfl
set_option maxRecDepth 100000 in
set_option maxHeartbeats 4000000 in
theorem mo_plain_201_eq (s : mSt) (x1 : Int32) (x2 : Int32) (x3 : Int32) (x4 : Int32) (x5 : Int32) (x6 : Int32) (x7 : Int32) (x8 : Int32) : mo_plain_201 s x1 x2 x3 x4 x5 x6 x7 x8 = (
  if (s 183 56) ≤ x8 then
    mo_plain_303 s x1 x2 x3 x4 x5 x6 x7
  else
    if x4 = 0 then
      mo_plain_303 s x1 x2 x3 x4 x5 x6 x7
    else
      gd (inb x8 8) (
        gd (inb x5 3) (
          gd (inb x5 3) (
            bI (mo_hoursTo s (s 226 x5.toNatClampNeg) (s 227 x5.toNatClampNeg) (s 221 x8.toNatClampNeg)) fun v1 s1 =>
              if ((x2 >>> (x8 &&& 31)) &&& 1) = 0 then
                bI (mo_mayDo s1 x5 (s 221 x8.toNatClampNeg)) fun v2 s2 =>
                  if v2 = 0 then
                    mo_plain_201 s2 x1 x2 x3 x4 x5 x6 x7 (x8 + 1)
                  else
                    gd (inb x5 3) (
                      bI (mo_takesReel s2 (s 221 x8.toNatClampNeg)) fun v3 s3 =>
                        if (s2 228 x5.toNatClampNeg) < v3 then
                          mo_plain_201 s3 x1 x2 x3 x4 x5 x6 x7 (x8 + 1)
                        else
                          if x7 ≤ v1 then
                            mo_plain_201 s3 x1 x2 x3 x4 x5 x6 x7 (x8 + 1)
                          else
                            mo_plain_201 s3 x1 x2 x3 x4 x5 x8 v1 (x8 + 1))
              else
                mo_plain_201 s1 x1 x2 x3 x4 x5 x6 x7 (x8 + 1)))) : mO) := (EV_un 2000 224 201 [some (pA 183), some (pI x1), some (pI x2), some (pI x3), some (pI x4), some (pI x5), some (pI x6), some (pI x7), some (pI x8), none, none] [] s).trans rfl
set_option maxRecDepth 100000 in
set_option maxHeartbeats 4000000 in
theorem mo_plain_303_eq (s : mSt) (x1 : Int32) (x2 : Int32) (x3 : Int32) (x4 : Int32) (x5 : Int32) (x6 : Int32) (x7 : Int32) : mo_plain_303 s x1 x2 x3 x4 x5 x6 x7 = (
  if x4 = 0 then
    mo_plain_326 s x1 x2 x3 x4 x5 x6 x7
  else
    if x6 = (-4) then
      gd (inb x5 3) (
        mo_plain_105 (wr s 230 x5.toNatClampNeg 1) x1 x2 x3 x4)
    else
      mo_plain_326 s x1 x2 x3 x4 x5 x6 x7 : mO) := (EV_un 2000 224 303 [some (pA 183), some (pI x1), some (pI x2), some (pI x3), some (pI x4), some (pI x5), some (pI x6), some (pI x7), none, none, none] [] s).trans rfl
set_option maxRecDepth 100000 in
set_option maxHeartbeats 4000000 in
theorem mo_plain_326_eq (s : mSt) (x1 : Int32) (x2 : Int32) (x3 : Int32) (x4 : Int32) (x5 : Int32) (x6 : Int32) (x7 : Int32) : mo_plain_326 s x1 x2 x3 x4 x5 x6 x7 = (
  if x4 = 0 then
    mo_plain_105 s x1 x2 x3 x4
  else
    gd (inb x6 8) (
      gd (inb x5 3) (
        gd (inb x5 3) (
          gd (inb x5 3) (
            bI (mo_takesReel (wr s 229 x5.toNatClampNeg ((s 229 x5.toNatClampNeg) + x7)) (s 221 x6.toNatClampNeg)) fun v1 s1 =>
              gd (inb x5 3) (
                gd (inb (s 221 x6.toNatClampNeg) 8) (
                  gd (inb (s 221 x6.toNatClampNeg) 8) (
                    bI (mo_xAt (wr s1 228 x5.toNatClampNeg ((s 228 x5.toNatClampNeg) - v1)) (s1 209 ((s 221 x6.toNatClampNeg)).toNatClampNeg) (s1 212 ((s 221 x6.toNatClampNeg)).toNatClampNeg)) fun v2 s2 =>
                      gd (inb x5 3) (
                        gd (inb (s 221 x6.toNatClampNeg) 8) (
                          gd (inb (s 221 x6.toNatClampNeg) 8) (
                            bI (mo_yAt (wr s2 226 x5.toNatClampNeg v2) (s2 209 ((s 221 x6.toNatClampNeg)).toNatClampNeg) (s2 212 ((s 221 x6.toNatClampNeg)).toNatClampNeg)) fun v3 s3 =>
                              gd (inb x5 3) (
                                gd (inb x6 8) (
                                  gd (inb x5 3) (
                                    mo_plain_105 (wr s3 227 x5.toNatClampNeg v3) x1 (x2 ||| (1 <<< (x6 &&& 31))) (x3 + ((s3 222 x6.toNatClampNeg) * ((s3 229 x5.toNatClampNeg) - (s3 183 11)))) x4))))))))))))) : mO) := (EV_un 2000 224 326 [some (pA 183), some (pI x1), some (pI x2), some (pI x3), some (pI x4), some (pI x5), some (pI x6), some (pI x7), none, none, none] [] s).trans rfl
set_option maxRecDepth 100000 in
set_option maxHeartbeats 4000000 in
theorem mo_owed_eq (s : mSt) (x1 : Int32) (x2 : Int32) : mo_owed s x1 x2 = (
  bI (mo_in s x1.toInt64 0 5) fun v1 s1 =>
    if v1 = 0 then
      rI (-1) s1
    else
      bI (mo_in s1 x2.toInt64 0 999) fun v2 s2 =>
        if v2 = 0 then
          rI (-1) s2
        else
          bI (mo_coins s2 x1 x2 1) fun v3 s3 =>
            rI v3 s3 : mO) := (EV_un 2000 227 0 [some (pA 183), some (pI x1), some (pI x2)] [] s).trans rfl
set_option maxRecDepth 100000 in
set_option maxHeartbeats 4000000 in
theorem mo_paid_eq (s : mSt) (x1 : Int32) (x2 : Int32) : mo_paid s x1 x2 = (
  bI (mo_in s x1.toInt64 0 5) fun v1 s1 =>
    if v1 = 0 then
      rI (-1) s1
    else
      bI (mo_in s1 x2.toInt64 0 999) fun v2 s2 =>
        if v2 = 0 then
          rI (-1) s2
        else
          bI (mo_coins s2 x1 x2 0) fun v3 s3 =>
            rI v3 s3 : mO) := (EV_un 2000 228 0 [some (pA 183), some (pI x1), some (pI x2)] [] s).trans rfl
set_option maxRecDepth 100000 in
set_option maxHeartbeats 4000000 in
theorem mo_plan_eq (s : mSt) (x1 : Int32) (x2 : Int32) (x3 : Int32) : mo_plan s x1 x2 x3 = (
  bI (mo_isLand s x1) fun v1 s1 =>
    if v1 = 0 then
      rI (-1) s1
    else
      bI (mo_isLand s1 x2) fun v2 s2 =>
        if v2 = 0 then
          rI (-1) s2
        else
          if x1 = x2 then
            rI (-1) s2
          else
            bI (mo_in s2 x3.toInt64 1 999) fun v3 s3 =>
              if v3 = 0 then
                rI (-1) s3
              else
                if (s3 183 67) = 8 then
                  rI (-3) s3
                else
                  gd (inb (s3 183 67) 8) (
                    gd (inb (s3 183 67) 8) (
                      gd (inb (s3 183 67) 8) (
                        rI (((s3 183 67) + 1) - 1) (wr (wr (wr (wr s3 231 ((s3 183 67)).toNatClampNeg x1) 232 ((s3 183 67)).toNatClampNeg x2) 233 ((s3 183 67)).toNatClampNeg x3) 183 67 ((s3 183 67) + 1))))) : mO) := (EV_un 2000 229 0 [some (pA 183), some (pI x1), some (pI x2), some (pI x3)] [] s).trans rfl
set_option maxRecDepth 100000 in
set_option maxHeartbeats 4000000 in
theorem mo_safe_eq (s : mSt) (x1 : Int32) (x2 : Int32) : mo_safe s x1 x2 = (
  bI (mo_in s x1.toInt64 0 ((1 <<< ((s 183 0) &&& 31)) - 1).toInt64) fun v1 s1 =>
    if v1 = 0 then
      rI (-1) s1
    else
      bI (mo_in s1 x2.toInt64 0 1) fun v2 s2 =>
        if v2 = 0 then
          rI (-1) s2
        else
          mo_safe_39 s2 x1 x2 (-4) 0 0 : mO) := (EV_un 2000 232 0 [some (pA 183), some (pI x1), some (pI x2), none, none, none, none, none] [] s).trans rfl
set_option maxRecDepth 100000 in
set_option maxHeartbeats 4000000 in
theorem mo_safe_39_eq (s : mSt) (x1 : Int32) (x2 : Int32) (x3 : Int32) (x4 : Int32) (x5 : Int32) : mo_safe_39 s x1 x2 x3 x4 x5 = (
  if (1 <<< ((s 183 67) &&& 31)) ≤ x5 then
    if x3 = (-4) then
      rI (-4) s
    else
      if x2 = 0 then
        rI x4 s
      else
        rI x3 s
  else
    mo_safe_56 s x1 x2 x3 x4 x5 0 0 : mO) := (EV_un 2000 232 39 [some (pA 183), some (pI x1), some (pI x2), some (pI x3), some (pI x4), some (pI x5), none, none] [] s).trans rfl
set_option maxRecDepth 100000 in
set_option maxHeartbeats 4000000 in
theorem mo_safe_56_eq (s : mSt) (x1 : Int32) (x2 : Int32) (x3 : Int32) (x4 : Int32) (x5 : Int32) (x6 : Int32) (x7 : Int32) : mo_safe_56 s x1 x2 x3 x4 x5 x6 x7 = (
  if (s 183 67) ≤ x7 then
    if x3 = (-4) then
      mo_safe_135 s x1 x2 x3 x4 x5 x6 1
    else
      if x6 < x4 then
        mo_safe_135 s x1 x2 x3 x4 x5 x6 1
      else
        if x6 = x4 then
          bI (mo_bits s x5) fun v1 s1 =>
            bI (mo_bits s1 x3) fun v2 s2 =>
              if v2 ≤ v1 then
                mo_safe_135 s2 x1 x2 x3 x4 x5 x6 0
              else
                mo_safe_135 s2 x1 x2 x3 x4 x5 x6 1
        else
          mo_safe_135 s x1 x2 x3 x4 x5 x6 0
  else
    if ((x5 >>> (x7 &&& 31)) &&& 1) = 1 then
      gd (inb x7 8) (
        mo_safe_56 s x1 x2 x3 x4 x5 (x6 + (s 233 x7.toNatClampNeg)) (x7 + 1))
    else
      mo_safe_56 s x1 x2 x3 x4 x5 (x6 + 0) (x7 + 1) : mO) := (EV_un 2000 232 56 [some (pA 183), some (pI x1), some (pI x2), some (pI x3), some (pI x4), some (pI x5), some (pI x6), some (pI x7)] [] s).trans rfl
set_option maxRecDepth 100000 in
set_option maxHeartbeats 4000000 in
theorem mo_safe_135_eq (s : mSt) (x1 : Int32) (x2 : Int32) (x3 : Int32) (x4 : Int32) (x5 : Int32) (x6 : Int32) (t0 : Int32) : mo_safe_135 s x1 x2 x3 x4 x5 x6 t0 = (
  if t0 = 0 then
    mo_safe_39 s x1 x2 x3 x4 (x5 + 1)
  else
    bI (mo_isSafe s x1 x5) fun v1 s1 =>
      if v1 = 0 then
        mo_safe_39 s1 x1 x2 x3 x4 (x5 + 1)
      else
        mo_safe_39 s1 x1 x2 x5 x6 (x5 + 1) : mO) := (EV_un 2000 232 135 [some (pA 183), some (pI x1), some (pI x2), some (pI x3), some (pI x4), some (pI x5), some (pI x6), none] [(pI t0)] s).trans rfl
set_option maxRecDepth 100000 in
set_option maxHeartbeats 4000000 in
theorem mo_sheet_eq (s : mSt) (x1 : Int32) (x2 : Int32) (x3 : Int32) : mo_sheet s x1 x2 x3 = (
  bI (mo_isSheet s x1 x2) fun v1 s1 =>
    if v1 = 0 then
      rI (-1) s1
    else
      if x3 ≤ 40 then
        if (0 : Int32) ≤ x3 then
          gd (inb x1 4) (
            gd (inb x1 4) (
              mo_sheet_40 (wr (wr s1 234 x1.toNatClampNeg x2) 235 x1.toNatClampNeg x3) x1 0))
        else
          rI (-14) s1
      else
        rI (-1) s1 : mO) := (EV_un 2000 234 0 [some (pA 183), some (pI x1), some (pI x2), some (pI x3), none] [] s).trans rfl
set_option maxRecDepth 100000 in
set_option maxHeartbeats 4000000 in
theorem mo_sheet_40_eq (s : mSt) (x1 : Int32) (x4 : Int32) : mo_sheet_40 s x1 x4 = (
  if (40 : Int32) ≤ x4 then
    rI 1 s
  else
    gd (inb ((40 * x1) + x4) 160) (
      mo_sheet_40 (wr s 236 (((40 * x1) + x4)).toNatClampNeg 0) x1 (x4 + 1)) : mO) := (EV_un 2000 234 40 [some (pA 183), some (pI x1), none, none, some (pI x4)] [] s).trans rfl
set_option maxRecDepth 100000 in
set_option maxHeartbeats 4000000 in
theorem mo_lay_eq (s : mSt) (x1 : Int32) (x2 : Int32) (x3 : Int32) : mo_lay s x1 x2 x3 = (
  bI (mo_isSheet s x1 0) fun v1 s1 =>
    if v1 = 0 then
      rI (-1) s1
    else
      gd (inb x1 4) (
        if (s1 234 x1.toNatClampNeg) = (-4) then
          rI (-11) s1
        else
          gd (inb x1 4) (
            bI (mo_in s1 x2.toInt64 0 ((s1 235 x1.toNatClampNeg) - 1).toInt64) fun v2 s2 =>
              if v2 = 0 then
                rI (-12) s2
              else
                gd (inb x1 4) (
                  if (s2 234 x1.toNatClampNeg) = 0 then
                    gd (inb ((40 * x1) + x2) 160) (
                      rI 1 (wr s2 236 (((40 * x1) + x2)).toNatClampNeg x3.toInt8.toInt32))
                  else
                    gd (inb x1 4) (
                      if (s2 234 x1.toNatClampNeg) = 1 then
                        gd (inb ((40 * x1) + x2) 160) (
                          rI 1 (wr s2 236 (((40 * x1) + x2)).toNatClampNeg x3.toInt16.toInt32))
                      else
                        gd (inb ((40 * x1) + x2) 160) (
                          rI 1 (wr s2 236 (((40 * x1) + x2)).toNatClampNeg x3)))))) : mO) := (EV_un 2000 235 0 [some (pA 183), some (pI x1), some (pI x2), some (pI x3)] [] s).trans rfl
set_option maxRecDepth 100000 in
set_option maxHeartbeats 4000000 in
theorem mo_read_eq (s : mSt) (x1 : Int32) (x2 : Int32) (x3 : Int32) : mo_read s x1 x2 x3 = (
  bI (mo_isSheet s x1 x2) fun v1 s1 =>
    if v1 = 0 then
      rI (-1) s1
    else
      gd (inb x1 4) (
        if (s1 234 x1.toNatClampNeg) = x2 then
          mo_read_42 s1 x1 x3 0
        else
          gd (inb x1 4) (
            if (s1 234 x1.toNatClampNeg) = (-4) then
              rI (-11) s1
            else
              rI (-13) s1)) : mO) := (EV_un 2000 236 0 [some (pA 183), some (pI x1), some (pI x2), some (pI x3), none, none, none] [] s).trans rfl
set_option maxRecDepth 100000 in
set_option maxHeartbeats 4000000 in
theorem mo_read_42_eq (s : mSt) (x1 : Int32) (x3 : Int32) (x4 : Int32) : mo_read_42 s x1 x3 x4 = (
  if (s 183 27) ≤ x4 then
    mo_read_124 s x1 x3 0 0
  else
    if (lg_cmp (x3.toInt64 + x4.toInt64) 0) < 0 then
      rI (-12) s
    else
      gd (inb x1 4) (
        if (lg_cmp (x3.toInt64 + x4.toInt64) (s 235 x1.toNatClampNeg).toInt64) < 0 then
          gd (inb ((40 * x1) + (x3.toInt64 + x4.toInt64).toInt32) 160) (
            bI (mo_in s (s 236 (((40 * x1) + (x3.toInt64 + x4.toInt64).toInt32)).toNatClampNeg).toInt64 0 99) fun v1 s1 =>
              if v1 = 0 then
                rI ((-20) - x4) s1
              else
                mo_read_42 s1 x1 x3 (x4 + 1))
        else
          rI (-12) s) : mO) := (EV_un 2000 236 42 [some (pA 183), some (pI x1), none, some (pI x3), some (pI x4), none, none] [] s).trans rfl
set_option maxRecDepth 100000 in
set_option maxHeartbeats 4000000 in
theorem mo_read_124_eq (s : mSt) (x1 : Int32) (x3 : Int32) (x4 : Int32) (x5 : Int32) : mo_read_124 s x1 x3 x4 x5 = (
  if (s 183 27) ≤ x5 then
    rI x4 s
  else
    gd (inb (((40 * x1) + x3) + x5) 160) (
      gd (inb x5 12) (
        gd (inb x5 12) (
          mo_read_124 (wr s 200 x5.toNatClampNeg (s 236 ((((40 * x1) + x3) + x5)).toNatClampNeg)) x1 x3 (x4 + ((wr s 200 x5.toNatClampNeg (s 236 ((((40 * x1) + x3) + x5)).toNatClampNeg)) 200 x5.toNatClampNeg)) (x5 + 1)))) : mO) := (EV_un 2000 236 124 [some (pA 183), some (pI x1), none, some (pI x3), some (pI x4), some (pI x5), none] [] s).trans rfl
set_option maxRecDepth 100000 in
set_option maxHeartbeats 4000000 in
theorem mo_count_eq (s : mSt) (x1 : Int32) : mo_count s x1 = (
  mo_count_7 s x1 0 0 0 : mO) := (EV_un 2000 237 0 [some (pA 183), some (pI x1), none, none, none] [] s).trans rfl
set_option maxRecDepth 100000 in
set_option maxHeartbeats 4000000 in
theorem mo_count_7_eq (s : mSt) (x1 : Int32) (x2 : Int32) (x3 : Int32) (x4 : Int32) : mo_count_7 s x1 x2 x3 x4 = (
  if (s 183 41) ≤ x4 then
    mo_count_42 s x1 x2 x3 0
  else
    bI (mo_isOpen s x4) fun v1 s1 =>
      if v1 = 0 then
        mo_count_7 s1 x1 (x2 + 0) x3 (x4 + 1)
      else
        mo_count_7 s1 x1 (x2 + 1) x3 (x4 + 1) : mO) := (EV_un 2000 237 7 [some (pA 183), some (pI x1), some (pI x2), some (pI x3), some (pI x4)] [] s).trans rfl
set_option maxRecDepth 100000 in
set_option maxHeartbeats 4000000 in
theorem mo_count_42_eq (s : mSt) (x1 : Int32) (x2 : Int32) (x3 : Int32) (x4 : Int32) : mo_count_42 s x1 x2 x3 x4 = (
  if (s 183 3) ≤ x4 then
    if x1 = 0 then
      rI (s 183 0) s
    else
    if x1 = 1 then
      rI (s 183 3) s
    else
    if x1 = 2 then
      rI (s 183 27) s
    else
    if x1 = 3 then
      rI (s 183 41) s
    else
    if x1 = 4 then
      rI x2 s
    else
    if x1 = 5 then
      rI (s 183 49) s
    else
    if x1 = 6 then
      rI (s 183 67) s
    else
    if x1 = 7 then
      rI (s 183 10) s
    else
    if x1 = 8 then
      rI (s 183 11) s
    else
    if x1 = 9 then
      rI x3 s
    else
    if x1 = 10 then
      rI (s 183 20) s
    else
    if x1 = 11 then
      if (s 234 0) = (-4) then
        rI (-4) s
      else
        rI (s 235 0) s
    else
      rI (-1) s
  else
    bI (mo_stateOf s x4) fun v1 s1 =>
      if v1 = 0 then
        mo_count_42 s1 x1 x2 (x3 + 1) (x4 + 1)
      else
        mo_count_42 s1 x1 x2 (x3 + 0) (x4 + 1) : mO) := (EV_un 2000 237 42 [some (pA 183), some (pI x1), some (pI x2), some (pI x3), some (pI x4)] [] s).trans rfl
set_option maxRecDepth 100000 in
set_option maxHeartbeats 4000000 in
theorem mo_in_eq (s : mSt) (x0 : Int64) (x2 : Int64) (x4 : Int64) : mo_in s x0 x2 x4 = (
  if (lg_cmp x0 x2) < 0 then
    rI 0 s
  else
    if (0 : Int32) < (lg_cmp x0 x4) then
      rI 0 s
    else
      rI 1 s : mO) := (EV_un 2000 148 0 [some (pJ x0), none, some (pJ x2), none, some (pJ x4), none] [] s).trans rfl
set_option maxRecDepth 100000 in
set_option maxHeartbeats 4000000 in
theorem mo_isLand_eq (s : mSt) (x1 : Int32) : mo_isLand s x1 = (
  bI (mo_in s x1.toInt64 0 ((s 183 0) - 1).toInt64) fun v1 s1 =>
    gd (bz v1) (rI v1 s1) : mO) := (EV_un 2000 151 0 [some (pA 183), some (pI x1)] [] s).trans rfl
set_option maxRecDepth 100000 in
set_option maxHeartbeats 4000000 in
theorem mo_isLine_eq (s : mSt) (x1 : Int32) : mo_isLine s x1 = (
  bI (mo_in s x1.toInt64 0 ((s 183 3) - 1).toInt64) fun v1 s1 =>
    gd (bz v1) (rI v1 s1) : mO) := (EV_un 2000 152 0 [some (pA 183), some (pI x1)] [] s).trans rfl
set_option maxRecDepth 100000 in
set_option maxHeartbeats 4000000 in
theorem mo_lengthOf_eq (s : mSt) (x1 : Int32) : mo_lengthOf s x1 = (
  gd (inb x1 12) (
    gd (inb (s 186 x1.toNatClampNeg) 8) (
      gd (inb x1 12) (
        gd (inb (s 187 x1.toNatClampNeg) 8) (
          bI (mo_plain1 s ((s 184 ((s 186 x1.toNatClampNeg)).toNatClampNeg) - (s 184 ((s 187 x1.toNatClampNeg)).toNatClampNeg))) fun v1 s1 =>
            gd (inb x1 12) (
              gd (inb (s1 186 x1.toNatClampNeg) 8) (
                gd (inb x1 12) (
                  gd (inb (s1 187 x1.toNatClampNeg) 8) (
                    bI (mo_plain1 s1 ((s1 185 ((s1 186 x1.toNatClampNeg)).toNatClampNeg) - (s1 185 ((s1 187 x1.toNatClampNeg)).toNatClampNeg))) fun v2 s2 =>
                      rI (v1 + v2) s2)))))))) : mO) := (EV_un 2000 155 0 [some (pA 183), some (pI x1)] [] s).trans rfl
set_option maxRecDepth 100000 in
set_option maxHeartbeats 4000000 in
theorem mo_stateOf_eq (s : mSt) (x1 : Int32) : mo_stateOf s x1 = (
  bI (mo_isCut s x1) fun v1 s1 =>
    if v1 = 0 then
      bI (mo_lightIn s1 x1 (s1 183 10)) fun v2 s2 =>
        if (s2 192 1) ≤ v2 then
          rI 0 s2
        else
          rI 1 s2
    else
      rI 2 s1 : mO) := (EV_un 2000 161 0 [some (pA 183), some (pI x1)] [] s).trans rfl
set_option maxRecDepth 100000 in
set_option maxHeartbeats 4000000 in
theorem mo_roomOf_eq (s : mSt) (x1 : Int32) : mo_roomOf s x1 = (
  bI (mo_stateOf s x1) fun v1 s1 =>
    if v1 = 0 then
      gd (inb x1 12) (
        rI ((s1 192 5) * (s1 189 x1.toNatClampNeg)) s1)
    else
      rI 0 s1 : mO) := (EV_un 2000 162 0 [some (pA 183), some (pI x1)] [] s).trans rfl
set_option maxRecDepth 100000 in
set_option maxHeartbeats 4000000 in
theorem mo_roomsNow_eq (s : mSt) : mo_roomsNow s = (
  mo_roomsNow_2 s 0 : mO) := (EV_un 2000 188 0 [some (pA 183), none] [] s).trans rfl
set_option maxRecDepth 100000 in
set_option maxHeartbeats 4000000 in
theorem mo_roomsNow_2_eq (s : mSt) (x1 : Int32) : mo_roomsNow_2 s x1 = (
  if (s 183 3) ≤ x1 then
    rV s
  else
    bI (mo_roomOf s x1) fun v1 s1 =>
      gd (inb x1 12) (
        mo_roomsNow_2 (wr s1 201 x1.toNatClampNeg v1) (x1 + 1)) : mO) := (EV_un 2000 188 2 [some (pA 183), some (pI x1)] [] s).trans rfl
set_option maxRecDepth 100000 in
set_option maxHeartbeats 4000000 in
theorem mo_leads_eq (s : mSt) : mo_leads s = (
  mo_leads_12 (wr (wr s 183 36 0) 183 35 0) 0 : mO) := (EV_un 2000 191 0 [some (pA 183), none, none] [] s).trans rfl
set_option maxRecDepth 100000 in
set_option maxHeartbeats 4000000 in
theorem mo_leads_12_eq (s : mSt) (x1 : Int32) : mo_leads_12 s x1 = (
  if (s 183 3) ≤ x1 then
    mo_leads_35 s 0
  else
    gd (inb x1 12) (
      mo_leads_12 (wr s 202 x1.toNatClampNeg 0) (x1 + 1)) : mO) := (EV_un 2000 191 12 [some (pA 183), some (pI x1), none] [] s).trans rfl
set_option maxRecDepth 100000 in
set_option maxHeartbeats 4000000 in
theorem mo_leads_35_eq (s : mSt) (x1 : Int32) : mo_leads_35 s x1 = (
  if (s 183 27) ≤ x1 then
    rI (s 183 36) s
  else
    gd (inb x1 12) (
      gd (inb x1 12) (
        if (s 200 x1.toNatClampNeg) ≤ 0 then
          mo_leads_35 (wr s 203 x1.toNatClampNeg (-4)) (x1 + 1)
        else
          mo_leads_62 (wr s 203 x1.toNatClampNeg (-4)) x1 0)) : mO) := (EV_un 2000 191 35 [some (pA 183), some (pI x1), none] [] s).trans rfl
set_option maxRecDepth 100000 in
set_option maxHeartbeats 4000000 in
theorem mo_leads_62_eq (s : mSt) (x1 : Int32) (x2 : Int32) : mo_leads_62 s x1 x2 = (
  if (s 183 3) ≤ x2 then
    bV (mo_findWay s x1) fun s1 =>
      gd (inb x1 12) (
        if (s1 203 x1.toNatClampNeg) = (-4) then
          gd (inb x1 12) (
            mo_leads_140 s1 x1 (s1 200 x1.toNatClampNeg) (s1 183 36))
        else
          mo_leads_140 s1 x1 0 (s1 183 36))
  else
    gd (inb x2 12) (
      gd (inb x2 12) (
        gd (inb x1 12) (
          if ((s 201 x2.toNatClampNeg) - (s 202 x2.toNatClampNeg)) < (s 200 x1.toNatClampNeg) then
            gd (inb x2 12) (
              mo_leads_62 (wr s 206 x2.toNatClampNeg (-1)) x1 (x2 + 1))
          else
            gd (inb x2 12) (
              mo_leads_62 (wr s 206 x2.toNatClampNeg 1) x1 (x2 + 1))))) : mO) := (EV_un 2000 191 62 [some (pA 183), some (pI x1), some (pI x2)] [] s).trans rfl
set_option maxRecDepth 100000 in
set_option maxHeartbeats 4000000 in
theorem mo_leads_140_eq (s : mSt) (x1 : Int32) (t0 : Int32) (t1 : Int32) : mo_leads_140 s x1 t0 t1 = (
  gd (inb x1 12) (
    if (s 203 x1.toNatClampNeg) = (-4) then
      mo_leads_173 (wr (wr s 183 36 (t1 + t0)) 183 35 ((s 183 35) ||| (1 <<< (x1 &&& 31)))) x1 0
    else
      mo_leads_173 (wr (wr s 183 36 (t1 + t0)) 183 35 ((s 183 35) ||| 0)) x1 0) : mO) := (EV_un 2000 191 140 [some (pA 183), some (pI x1), none] [(pI t0), (pI t1), (pA 183)] s).trans rfl
set_option maxRecDepth 100000 in
set_option maxHeartbeats 4000000 in
theorem mo_leads_173_eq (s : mSt) (x1 : Int32) (x2 : Int32) : mo_leads_173 s x1 x2 = (
  gd (inb x1 12) (
    if (s 203 x1.toNatClampNeg) ≤ x2 then
      mo_leads_35 s (x1 + 1)
    else
      gd (inb ((8 * x1) + x2) 96) (
        gd (inb (s 204 (((8 * x1) + x2)).toNatClampNeg) 12) (
          gd (inb x1 12) (
            gd (inb (s 204 (((8 * x1) + x2)).toNatClampNeg) 12) (
              mo_leads_173 (wr s 202 ((s 204 (((8 * x1) + x2)).toNatClampNeg)).toNatClampNeg ((s 202 ((s 204 (((8 * x1) + x2)).toNatClampNeg)).toNatClampNeg) + (s 200 x1.toNatClampNeg))) x1 (x2 + 1)))))) : mO) := (EV_un 2000 191 173 [some (pA 183), some (pI x1), some (pI x2)] [] s).trans rfl
set_option maxRecDepth 100000 in
set_option maxHeartbeats 4000000 in
theorem mo_aheadOf_eq (s : mSt) (x1 : Int32) : mo_aheadOf s x1 = (
  gd (inb x1 12) (
    bI (mo_leads s) fun v1 s1 =>
      gd (inb x1 12) (
        bI (mo_leads (wr s1 201 x1.toNatClampNeg 0)) fun v2 s2 =>
          gd (inb x1 12) (
            rI (v2 - v1) (wr s2 201 x1.toNatClampNeg (s 201 x1.toNatClampNeg))))) : mO) := (EV_un 2000 192 0 [some (pA 183), some (pI x1), none, none, none] [] s).trans rfl
set_option maxRecDepth 100000 in
set_option maxHeartbeats 4000000 in
theorem mo_lightIn_eq (s : mSt) (x1 : Int32) (x2 : Int32) : mo_lightIn s x1 x2 = (
  gd (inb x1 12) (
    if x2 ≤ (s 191 x1.toNatClampNeg) then
      mo_lightIn_22 s x1 0
    else
      gd (inb x1 12) (
        mo_lightIn_22 s x1 (x2 - (s 191 x1.toNatClampNeg)))) : mO) := (EV_un 2000 156 0 [some (pA 183), some (pI x1), some (pI x2), none] [] s).trans rfl
set_option maxRecDepth 100000 in
set_option maxHeartbeats 4000000 in
theorem mo_lightIn_22_eq (s : mSt) (x1 : Int32) (t0 : Int32) : mo_lightIn_22 s x1 t0 = (
  bI (mo_lengthOf s x1) fun v1 s1 =>
    gd (inb x1 12) (
      rI ((((s 192 0) - ((s 192 2) * v1)) - ((s1 192 3) * (s1 190 x1.toNatClampNeg))) - ((s1 192 4) * t0)) s1) : mO) := (EV_un 2000 156 22 [some (pA 183), some (pI x1), none, none] [(pI t0)] s).trans rfl
set_option maxRecDepth 100000 in
set_option maxHeartbeats 4000000 in
theorem mo_firstRules_eq (s : mSt) : mo_firstRules s = (
  mo_firstRules_2 s 0 : mO) := (EV_un 2000 167 0 [some (pA 183), none] [] s).trans rfl
set_option maxRecDepth 100000 in
set_option maxHeartbeats 4000000 in
theorem mo_firstRules_2_eq (s : mSt) (x1 : Int32) : mo_firstRules_2 s x1 = (
  if (8 : Int32) ≤ x1 then
    rV (wr s 183 17 0)
  else
    gd (inb x1 8) (
      if x1 = 0 then
        gd (inb x1 8) (
          mo_firstRules_2 (wr (wr s 194 x1.toNatClampNeg 0) 193 x1.toNatClampNeg 100) (x1 + 1))
      else
        if x1 = 1 then
          gd (inb x1 8) (
            mo_firstRules_2 (wr (wr s 194 x1.toNatClampNeg 0) 193 x1.toNatClampNeg 20) (x1 + 1))
        else
          if x1 = 3 then
            gd (inb x1 8) (
              mo_firstRules_2 (wr (wr s 194 x1.toNatClampNeg 0) 193 x1.toNatClampNeg 2) (x1 + 1))
          else
            if x1 = 7 then
              gd (inb x1 8) (
                mo_firstRules_2 (wr (wr s 194 x1.toNatClampNeg 0) 193 x1.toNatClampNeg 2) (x1 + 1))
            else
              if x1 = 5 then
                gd (inb x1 8) (
                  mo_firstRules_2 (wr (wr s 194 x1.toNatClampNeg 0) 193 x1.toNatClampNeg 5) (x1 + 1))
              else
                if x1 = 6 then
                  gd (inb x1 8) (
                    mo_firstRules_2 (wr (wr s 194 x1.toNatClampNeg 0) 193 x1.toNatClampNeg 4) (x1 + 1))
                else
                  gd (inb x1 8) (
                    mo_firstRules_2 (wr (wr s 194 x1.toNatClampNeg 0) 193 x1.toNatClampNeg 1) (x1 + 1))) : mO) := (EV_un 2000 167 2 [some (pA 183), some (pI x1)] [] s).trans rfl
set_option maxRecDepth 100000 in
set_option maxHeartbeats 4000000 in
theorem mo_next_eq (s : mSt) : mo_next s = (
  if (s 183 25) ≤ 0 then
    mo_next_8 s
  else
    rV s : mO) := (EV_un 2000 172 0 [some (pA 183), none] [] s).trans rfl
set_option maxRecDepth 100000 in
set_option maxHeartbeats 4000000 in
theorem mo_next_8_eq (s : mSt) : mo_next_8 s = (
  bI (mo_look s (s 183 21)) fun v1 s1 =>
    if v1 = 32 then
      mo_next_8 (wr s1 183 21 ((s1 183 21) + 1))
    else
      bI (mo_look (wr s1 183 22 (s1 183 21)) (s1 183 21)) fun v2 s2 =>
        if (0 : Int32) ≤ v2 then
          bI (mo_in s2 v2.toInt64 97 122) fun v3 s3 =>
            if v3 = 0 then
              bI (mo_in s3 v2.toInt64 48 57) fun v4 s4 =>
                if v4 = 0 then
                  if v2 = 59 then
                    mo_next_260 (wr s4 183 23 3) 1
                  else
                    mo_next_260 (wr s4 183 23 3) 0
                else
                  mo_next_140 (wr (wr s4 183 23 2) 183 24 0)
            else
              mo_next_82 (wr s3 183 23 1)
        else
          rV (wr s2 183 23 0) : mO) := (EV_un 2000 172 8 [some (pA 183), none] [] s).trans rfl
set_option maxRecDepth 100000 in
set_option maxHeartbeats 4000000 in
theorem mo_next_260_eq (s : mSt) (t0 : Int32) : mo_next_260 s t0 = (
  bV (mo_wants s t0 1) fun s1 =>
    rV (wr s1 183 21 ((s1 183 21) + 1)) : mO) := (EV_un 2000 172 260 [some (pA 183), none] [(pI t0), (pA 183)] s).trans rfl
set_option maxRecDepth 100000 in
set_option maxHeartbeats 4000000 in
theorem mo_next_140_eq (s : mSt) : mo_next_140 s = (
  bI (mo_look s (s 183 21)) fun v1 s1 =>
    bI (mo_in s1 v1.toInt64 48 57) fun v2 s2 =>
      if v2 = 0 then
        if (3 : Int32) < ((s2 183 21) - (s2 183 22)) then
          bV (mo_wants s2 0 1) fun s3 =>
            rV s3
        else
          bV (mo_wants s2 1 1) fun s4 =>
            rV s4
      else
        if (3 : Int32) ≤ ((s2 183 21) - (s2 183 22)) then
          mo_next_201 s2 (s2 183 24)
        else
          bI (mo_look s2 (s2 183 21)) fun v5 s5 =>
            mo_next_201 s5 (((10 * (s2 183 24)) + v5) - 48) : mO) := (EV_un 2000 172 140 [some (pA 183), none] [] s).trans rfl
set_option maxRecDepth 100000 in
set_option maxHeartbeats 4000000 in
theorem mo_next_82_eq (s : mSt) : mo_next_82 s = (
  bI (mo_look s (s 183 21)) fun v1 s1 =>
    bI (mo_in s1 v1.toInt64 97 122) fun v2 s2 =>
      if v2 = 0 then
        rV s2
      else
        mo_next_82 (wr s2 183 21 ((s2 183 21) + 1)) : mO) := (EV_un 2000 172 82 [some (pA 183), none] [] s).trans rfl
set_option maxRecDepth 100000 in
set_option maxHeartbeats 4000000 in
theorem mo_next_201_eq (s : mSt) (t0 : Int32) : mo_next_201 s t0 = (
  mo_next_140 (wr (wr s 183 24 t0) 183 21 ((s 183 21) + 1)) : mO) := (EV_un 2000 172 201 [some (pA 183), none] [(pI t0), (pA 183)] s).trans rfl
set_option maxRecDepth 100000 in
set_option maxHeartbeats 4000000 in
theorem mo_readLine_eq (s : mSt) : mo_readLine s = (
  bI (mo_nameNow s) fun v1 s1 =>
    bI (mo_in s1 v1.toInt64 0 8) fun v2 s2 =>
      bV (mo_wants s2 v2 2) fun s3 =>
        if (s3 183 25) ≤ 0 then
          if v1 = 8 then
            mo_readLine_48 s3 v1 1
          else
            gd (inb v1 8) (
              if (s3 194 v1.toNatClampNeg) = 0 then
                mo_readLine_48 s3 v1 1
              else
                mo_readLine_48 s3 v1 0)
        else
          rV s3 : mO) := (EV_un 2000 180 0 [some (pA 183), none] [] s).trans rfl
set_option maxRecDepth 100000 in
set_option maxHeartbeats 4000000 in
theorem mo_readLine_48_eq (s : mSt) (x1 : Int32) (t0 : Int32) : mo_readLine_48 s x1 t0 = (
  bV (mo_wants s t0 4) fun s1 =>
    if x1 < 8 then
      mo_readLine_73 s1 x1 1
    else
      if (8 : Int32) ≤ (s1 183 17) then
        mo_readLine_73 s1 x1 0
      else
        mo_readLine_73 s1 x1 1 : mO) := (EV_un 2000 180 48 [some (pA 183), some (pI x1)] [(pI t0), (pA 183)] s).trans rfl
set_option maxRecDepth 100000 in
set_option maxHeartbeats 4000000 in
theorem mo_readLine_73_eq (s : mSt) (x1 : Int32) (t0 : Int32) : mo_readLine_73 s x1 t0 = (
  bV (mo_wants s t0 5) fun s1 =>
    bV (mo_next s1) fun s2 =>
      if x1 = 8 then
        if (s2 183 25) = 0 then
          bV (mo_readRent s2) fun s3 =>
            mo_readLine_133 s3
        else
          mo_readLine_101 s2 x1
      else
        mo_readLine_101 s2 x1 : mO) := (EV_un 2000 180 73 [some (pA 183), some (pI x1)] [(pI t0), (pA 183)] s).trans rfl
set_option maxRecDepth 100000 in
set_option maxHeartbeats 4000000 in
theorem mo_readLine_101_eq (s : mSt) (x1 : Int32) : mo_readLine_101 s x1 = (
  if (s 183 25) = 0 then
    gd (inb x1 8) (
      bI (mo_least (wr s 194 x1.toNatClampNeg 1) x1) fun v1 s1 =>
        bI (mo_most s1 x1) fun v2 s2 =>
          bI (mo_readNumber s2 v1 v2) fun v3 s3 =>
            gd (inb x1 8) (
              mo_readLine_133 (wr s3 193 x1.toNatClampNeg v3)))
  else
    mo_readLine_133 s : mO) := (EV_un 2000 180 101 [some (pA 183), some (pI x1)] [] s).trans rfl
set_option maxRecDepth 100000 in
set_option maxHeartbeats 4000000 in
theorem mo_readLine_133_eq (s : mSt) : mo_readLine_133 s = (
  if (s 183 25) = 0 then
    if (s 183 23) = 3 then
      mo_readLine_154 s 1
    else
      mo_readLine_154 s 0
  else
    bV (mo_next s) fun s1 =>
      rV s1 : mO) := (EV_un 2000 180 133 [some (pA 183), none] [] s).trans rfl
set_option maxRecDepth 100000 in
set_option maxHeartbeats 4000000 in
theorem mo_readLine_154_eq (s : mSt) (t0 : Int32) : mo_readLine_154 s t0 = (
  bV (mo_wants s t0 2) fun s1 =>
    bV (mo_next s1) fun s2 =>
      rV s2 : mO) := (EV_un 2000 180 154 [some (pA 183), none] [(pI t0), (pA 183)] s).trans rfl
set_option maxRecDepth 100000 in
set_option maxHeartbeats 4000000 in
theorem mo_isDemand_eq (s : mSt) (x1 : Int32) : mo_isDemand s x1 = (
  bI (mo_in s x1.toInt64 0 ((s 183 27) - 1).toInt64) fun v1 s1 =>
    gd (bz v1) (rI v1 s1) : mO) := (EV_un 2000 186 0 [some (pA 183), some (pI x1)] [] s).trans rfl
set_option maxRecDepth 100000 in
set_option maxHeartbeats 4000000 in
theorem mo_partsBy_eq (s : mSt) (x1 : Int32) (x2 : Int32) (x3 : Int32) : mo_partsBy s x1 x2 x3 = (
  mo_partsBy_3 s x1 x2 x3 0 : mO) := (EV_un 2000 195 0 [some (pA 183), some (pI x1), some (pI x2), some (pI x3), none, none, none, none, none] [] s).trans rfl
set_option maxRecDepth 100000 in
set_option maxHeartbeats 4000000 in
theorem mo_partsBy_3_eq (s : mSt) (x1 : Int32) (x2 : Int32) (x3 : Int32) (x4 : Int32) : mo_partsBy_3 s x1 x2 x3 x4 = (
  if (s 183 0) ≤ x4 then
    mo_partsBy_36 s x1 x2 x3 (s 183 0) 0
  else
    gd (inb x4 8) (
      mo_partsBy_3 (wr s 207 x4.toNatClampNeg x4) x1 x2 x3 (x4 + 1)) : mO) := (EV_un 2000 195 3 [some (pA 183), some (pI x1), some (pI x2), some (pI x3), some (pI x4), none, none, none, none] [] s).trans rfl
set_option maxRecDepth 100000 in
set_option maxHeartbeats 4000000 in
theorem mo_partsBy_36_eq (s : mSt) (x1 : Int32) (x2 : Int32) (x3 : Int32) (x4 : Int32) (x5 : Int32) : mo_partsBy_36 s x1 x2 x3 x4 x5 = (
  if (s 183 3) ≤ x5 then
    rI x4 s
  else
    gd (inb x5 12) (
      gd (inb (s 186 x5.toNatClampNeg) 8) (
        gd (inb x5 12) (
          gd (inb (s 187 x5.toNatClampNeg) 8) (
            if x5 = x1 then
              mo_partsBy_36 s x1 x2 x3 x4 (x5 + 1)
            else
              if x5 = x2 then
                mo_partsBy_36 s x1 x2 x3 x4 (x5 + 1)
              else
                gd (inb x5 12) (
                  if (s 201 x5.toNatClampNeg) < x3 then
                    mo_partsBy_36 s x1 x2 x3 x4 (x5 + 1)
                  else
                    if (s 207 ((s 186 x5.toNatClampNeg)).toNatClampNeg) = (s 207 ((s 187 x5.toNatClampNeg)).toNatClampNeg) then
                      mo_partsBy_36 s x1 x2 x3 x4 (x5 + 1)
                    else
                      mo_partsBy_106 s x1 x2 x3 x4 x5 (s 207 ((s 186 x5.toNatClampNeg)).toNatClampNeg) (s 207 ((s 187 x5.toNatClampNeg)).toNatClampNeg) 0))))) : mO) := (EV_un 2000 195 36 [some (pA 183), some (pI x1), some (pI x2), some (pI x3), some (pI x4), some (pI x5), none, none, none] [] s).trans rfl
set_option maxRecDepth 100000 in
set_option maxHeartbeats 4000000 in
theorem mo_partsBy_106_eq (s : mSt) (x1 : Int32) (x2 : Int32) (x3 : Int32) (x4 : Int32) (x5 : Int32) (x6 : Int32) (x7 : Int32) (x8 : Int32) : mo_partsBy_106 s x1 x2 x3 x4 x5 x6 x7 x8 = (
  if (s 183 0) ≤ x8 then
    mo_partsBy_36 s x1 x2 x3 (x4 + (-1)) (x5 + 1)
  else
    gd (inb x8 8) (
      if (s 207 x8.toNatClampNeg) = x6 then
        gd (inb x8 8) (
          mo_partsBy_106 (wr s 207 x8.toNatClampNeg x7) x1 x2 x3 x4 x5 x6 x7 (x8 + 1))
      else
        gd (inb x8 8) (
          gd (inb x8 8) (
            mo_partsBy_106 (wr s 207 x8.toNatClampNeg (s 207 x8.toNatClampNeg)) x1 x2 x3 x4 x5 x6 x7 (x8 + 1)))) : mO) := (EV_un 2000 195 106 [some (pA 183), some (pI x1), some (pI x2), some (pI x3), some (pI x4), some (pI x5), some (pI x6), some (pI x7), some (pI x8)] [] s).trans rfl
set_option maxRecDepth 100000 in
set_option maxHeartbeats 4000000 in
theorem mo_swingsOnce_eq (s : mSt) (x1 : Int32) : mo_swingsOnce s x1 = (
  mo_swingsOnce_2 s x1 0 : mO) := (EV_un 2000 198 0 [some (pA 183), some (pI x1), none, none] [] s).trans rfl
set_option maxRecDepth 100000 in
set_option maxHeartbeats 4000000 in
theorem mo_swingsOnce_2_eq (s : mSt) (x1 : Int32) (x2 : Int32) : mo_swingsOnce_2 s x1 x2 = (
  if (s 183 3) ≤ x2 then
    mo_swingsOnce_79 s x1 0
  else
    if x1 = 0 then
      mo_swingsOnce_31 s x1 x2 0
    else
      gd (inb ((12 * (x1 - 1)) + x2) 732) (
        mo_swingsOnce_31 s x1 x2 (s 208 (((12 * (x1 - 1)) + x2)).toNatClampNeg)) : mO) := (EV_un 2000 198 2 [some (pA 183), some (pI x1), some (pI x2), none] [] s).trans rfl
set_option maxRecDepth 100000 in
set_option maxHeartbeats 4000000 in
theorem mo_swingsOnce_79_eq (s : mSt) (x1 : Int32) (x2 : Int32) : mo_swingsOnce_79 s x1 x2 = (
  if (s 183 27) ≤ x2 then
    rV s
  else
    gd (inb x2 12) (
      gd (inb x2 12) (
        if (s 200 x2.toNatClampNeg) ≤ 0 then
          mo_swingsOnce_79 (wr s 203 x2.toNatClampNeg (-4)) x1 (x2 + 1)
        else
          bV (mo_findWay (wr s 203 x2.toNatClampNeg (-4)) x2) fun s1 =>
            mo_swingsOnce_111 s1 x1 x2 0)) : mO) := (EV_un 2000 198 79 [some (pA 183), some (pI x1), some (pI x2), none] [] s).trans rfl
set_option maxRecDepth 100000 in
set_option maxHeartbeats 4000000 in
theorem mo_swingsOnce_31_eq (s : mSt) (x1 : Int32) (x2 : Int32) (t0 : Int32) : mo_swingsOnce_31 s x1 x2 t0 = (
  gd (inb x2 12) (
    if (s 201 x2.toNatClampNeg) ≤ 0 then
      mo_swingsOnce_58 s x1 x2 (-1) x2
    else
      mo_swingsOnce_58 s x1 x2 ((100 * (1 + t0)) + 1) x2) : mO) := (EV_un 2000 198 31 [some (pA 183), some (pI x1), some (pI x2), none] [(pI t0)] s).trans rfl
set_option maxRecDepth 100000 in
set_option maxHeartbeats 4000000 in
theorem mo_swingsOnce_111_eq (s : mSt) (x1 : Int32) (x2 : Int32) (x3 : Int32) : mo_swingsOnce_111 s x1 x2 x3 = (
  gd (inb x2 12) (
    if (s 203 x2.toNatClampNeg) ≤ x3 then
      mo_swingsOnce_79 s x1 (x2 + 1)
    else
      gd (inb ((8 * x2) + x3) 96) (
        gd (inb ((12 * x1) + (s 204 (((8 * x2) + x3)).toNatClampNeg)) 732) (
          gd (inb x2 12) (
            gd (inb ((12 * x1) + (s 204 (((8 * x2) + x3)).toNatClampNeg)) 732) (
              mo_swingsOnce_111 (wr s 208 (((12 * x1) + (s 204 (((8 * x2) + x3)).toNatClampNeg))).toNatClampNeg ((s 208 (((12 * x1) + (s 204 (((8 * x2) + x3)).toNatClampNeg))).toNatClampNeg) + (s 200 x2.toNatClampNeg))) x1 x2 (x3 + 1)))))) : mO) := (EV_un 2000 198 111 [some (pA 183), some (pI x1), some (pI x2), some (pI x3)] [] s).trans rfl
set_option maxRecDepth 100000 in
set_option maxHeartbeats 4000000 in
theorem mo_swingsOnce_58_eq (s : mSt) (x1 : Int32) (x2 : Int32) (t0 : Int32) (t1 : Int32) : mo_swingsOnce_58 s x1 x2 t0 t1 = (
  gd (inb t1 12) (
    gd (inb ((12 * x1) + x2) 732) (
      mo_swingsOnce_2 (wr (wr s 206 t1.toNatClampNeg t0) 208 (((12 * x1) + x2)).toNatClampNeg 0) x1 (x2 + 1))) : mO) := (EV_un 2000 198 58 [some (pA 183), some (pI x1), some (pI x2), none] [(pI t0), (pI t1), (pA 206)] s).trans rfl
set_option maxRecDepth 100000 in
set_option maxHeartbeats 4000000 in
theorem mo_areAlike_eq (s : mSt) (x1 : Int32) (x2 : Int32) : mo_areAlike s x1 x2 = (
  mo_areAlike_5 s x1 x2 1 0 : mO) := (EV_un 2000 200 0 [some (pA 183), some (pI x1), some (pI x2), none, none] [] s).trans rfl
set_option maxRecDepth 100000 in
set_option maxHeartbeats 4000000 in
theorem mo_areAlike_5_eq (s : mSt) (x1 : Int32) (x2 : Int32) (x3 : Int32) (x4 : Int32) : mo_areAlike_5 s x1 x2 x3 x4 = (
  if (s 183 3) ≤ x4 then
    gd (bz x3) (rI x3 s)
  else
    if x3 = 0 then
      mo_areAlike_5 s x1 x2 0 (x4 + 1)
    else
      gd (inb ((12 * x1) + x4) 732) (
        gd (inb ((12 * x2) + x4) 732) (
          if (s 208 (((12 * x1) + x4)).toNatClampNeg) = (s 208 (((12 * x2) + x4)).toNatClampNeg) then
            mo_areAlike_5 s x1 x2 1 (x4 + 1)
          else
            mo_areAlike_5 s x1 x2 0 (x4 + 1))) : mO) := (EV_un 2000 200 5 [some (pA 183), some (pI x1), some (pI x2), some (pI x3), some (pI x4)] [] s).trans rfl
set_option maxRecDepth 100000 in
set_option maxHeartbeats 4000000 in
theorem mo_isBreak_eq (s : mSt) (x1 : Int32) : mo_isBreak s x1 = (
  bI (mo_in s x1.toInt64 0 ((s 183 41) - 1).toInt64) fun v1 s1 =>
    gd (bz v1) (rI v1 s1) : mO) := (EV_un 2000 202 0 [some (pA 183), some (pI x1)] [] s).trans rfl
set_option maxRecDepth 100000 in
set_option maxHeartbeats 4000000 in
theorem mo_isOpen_eq (s : mSt) (x1 : Int32) : mo_isOpen s x1 = (
  gd (inb x1 8) (
    if (s 214 x1.toNatClampNeg) = (-4) then
      rI 1 s
    else
      gd (inb x1 8) (
        if (s 214 x1.toNatClampNeg) ≤ (s 183 11) then
          rI 0 s
        else
          rI 1 s)) : mO) := (EV_un 2000 159 0 [some (pA 183), some (pI x1)] [] s).trans rfl
set_option maxRecDepth 100000 in
set_option maxHeartbeats 4000000 in
theorem mo_xAt_eq (s : mSt) (x1 : Int32) (x2 : Int32) : mo_xAt s x1 x2 = (
  gd (inb x1 12) (
    gd (inb (s 186 x1.toNatClampNeg) 8) (
      gd (inb x1 12) (
        gd (inb (s 187 x1.toNatClampNeg) 8) (
          bI (mo_plain1 s ((s 184 ((s 187 x1.toNatClampNeg)).toNatClampNeg) - (s 184 ((s 186 x1.toNatClampNeg)).toNatClampNeg))) fun v1 s1 =>
            if v1 ≤ x2 then
              mo_xAt_46 s1 (s 184 ((s 186 x1.toNatClampNeg)).toNatClampNeg) (s 184 ((s 187 x1.toNatClampNeg)).toNatClampNeg) v1
            else
              mo_xAt_46 s1 (s 184 ((s 186 x1.toNatClampNeg)).toNatClampNeg) (s 184 ((s 187 x1.toNatClampNeg)).toNatClampNeg) x2)))) : mO) := (EV_un 2000 205 0 [some (pA 183), some (pI x1), some (pI x2), none, none, none, none] [] s).trans rfl
set_option maxRecDepth 100000 in
set_option maxHeartbeats 4000000 in
theorem mo_xAt_46_eq (s : mSt) (x3 : Int32) (x4 : Int32) (t0 : Int32) : mo_xAt_46 s x3 x4 t0 = (
  if x4 ≤ x3 then
    rI (x3 - t0) s
  else
    rI (x3 + t0) s : mO) := (EV_un 2000 205 46 [none, none, none, some (pI x3), some (pI x4), none, none] [(pI t0)] s).trans rfl
set_option maxRecDepth 100000 in
set_option maxHeartbeats 4000000 in
theorem mo_yAt_eq (s : mSt) (x1 : Int32) (x2 : Int32) : mo_yAt s x1 x2 = (
  gd (inb x1 12) (
    gd (inb (s 187 x1.toNatClampNeg) 8) (
      gd (inb x1 12) (
        gd (inb (s 186 x1.toNatClampNeg) 8) (
          bI (mo_plain1 s ((s 184 ((s 187 x1.toNatClampNeg)).toNatClampNeg) - (s 184 ((s 186 x1.toNatClampNeg)).toNatClampNeg))) fun v1 s1 =>
            gd (inb x1 12) (
              gd (inb (s1 186 x1.toNatClampNeg) 8) (
                if x2 ≤ v1 then
                  mo_yAt_52 s1 x1 (s1 185 ((s1 186 x1.toNatClampNeg)).toNatClampNeg) 0
                else
                  mo_yAt_52 s1 x1 (s1 185 ((s1 186 x1.toNatClampNeg)).toNatClampNeg) (x2 - v1))))))) : mO) := (EV_un 2000 206 0 [some (pA 183), some (pI x1), some (pI x2), none, none, none] [] s).trans rfl
set_option maxRecDepth 100000 in
set_option maxHeartbeats 4000000 in
theorem mo_yAt_52_eq (s : mSt) (x1 : Int32) (x4 : Int32) (t0 : Int32) : mo_yAt_52 s x1 x4 t0 = (
  gd (inb x1 12) (
    gd (inb (s 187 x1.toNatClampNeg) 8) (
      if (s 185 ((s 187 x1.toNatClampNeg)).toNatClampNeg) ≤ x4 then
        rI (x4 - t0) s
      else
        rI (x4 + t0) s)) : mO) := (EV_un 2000 206 52 [some (pA 183), some (pI x1), none, none, some (pI x4), none] [(pI t0)] s).trans rfl
set_option maxRecDepth 100000 in
set_option maxHeartbeats 4000000 in
theorem mo_plain1_eq (s : mSt) (x0 : Int32) : mo_plain1 s x0 = (
  if (0 : Int32) ≤ x0 then
    rI x0 s
  else
    rI (-x0) s : mO) := (EV_un 2000 150 0 [some (pI x0)] [] s).trans rfl
set_option maxRecDepth 100000 in
set_option maxHeartbeats 4000000 in
theorem mo_isShip_eq (s : mSt) (x1 : Int32) : mo_isShip s x1 = (
  bI (mo_in s x1.toInt64 0 ((s 183 49) - 1).toInt64) fun v1 s1 =>
    gd (bz v1) (rI v1 s1) : mO) := (EV_un 2000 211 0 [some (pA 183), some (pI x1)] [] s).trans rfl
set_option maxRecDepth 100000 in
set_option maxHeartbeats 4000000 in
theorem mo_mayDo_eq (s : mSt) (x1 : Int32) (x2 : Int32) : mo_mayDo s x1 x2 = (
  gd (inb x1 3) (
    gd (inb x2 8) (
      gd (inb (s 209 x2.toNatClampNeg) 12) (
        if (((s 219 x1.toNatClampNeg) >>> ((s 188 ((s 209 x2.toNatClampNeg)).toNatClampNeg) &&& 31)) &&& 1) = 1 then
          rI 1 s
        else
          rI 0 s))) : mO) := (EV_un 2000 214 0 [some (pA 183), some (pI x1), some (pI x2)] [] s).trans rfl
set_option maxRecDepth 100000 in
set_option maxHeartbeats 4000000 in
theorem mo_takesReel_eq (s : mSt) (x1 : Int32) : mo_takesReel s x1 = (
  gd (inb x1 8) (
    gd (inb x1 8) (
      rI ((3 + (s 213 x1.toNatClampNeg)) - (s 212 x1.toNatClampNeg)) s)) : mO) := (EV_un 2000 213 0 [some (pA 183), some (pI x1)] [] s).trans rfl
set_option maxRecDepth 100000 in
set_option maxHeartbeats 4000000 in
theorem mo_startOf_eq (s : mSt) (x1 : Int32) : mo_startOf s x1 = (
  gd (inb x1 3) (
    if (s 220 x1.toNatClampNeg) ≤ (s 183 11) then
      rI (s 183 11) s
    else
      gd (inb x1 3) (
        rI (s 220 x1.toNatClampNeg) s)) : mO) := (EV_un 2000 216 0 [some (pA 183), some (pI x1)] [] s).trans rfl
set_option maxRecDepth 100000 in
set_option maxHeartbeats 4000000 in
theorem mo_hoursTo_eq (s : mSt) (x1 : Int32) (x2 : Int32) (x3 : Int32) : mo_hoursTo s x1 x2 x3 = (
  gd (inb x3 8) (
    gd (inb x3 8) (
      bI (mo_xAt s (s 209 x3.toNatClampNeg) (s 212 x3.toNatClampNeg)) fun v1 s1 =>
        bI (mo_plain1 s1 (x1 - v1)) fun v2 s2 =>
          gd (inb x3 8) (
            gd (inb x3 8) (
              bI (mo_yAt s2 (s2 209 x3.toNatClampNeg) (s2 212 x3.toNatClampNeg)) fun v3 s3 =>
                bI (mo_plain1 s3 (x2 - v3)) fun v4 s4 =>
                  gd (!(decide ((s4 192 7) = (0 : Int32)))) (
                    rI (((((v2 + v4) + (s4 192 7)) - 1) / (s4 192 7)) + (s4 192 6)) s4))))) : mO) := (EV_un 2000 215 0 [some (pA 183), some (pI x1), some (pI x2), some (pI x3), none] [] s).trans rfl
set_option maxRecDepth 100000 in
set_option maxHeartbeats 4000000 in
theorem mo_findListed_eq (s : mSt) : mo_findListed s = (
  mo_findListed_7 (wr s 183 56 0) 0 : mO) := (EV_un 2000 218 0 [some (pA 183), none] [] s).trans rfl
set_option maxRecDepth 100000 in
set_option maxHeartbeats 4000000 in
theorem mo_findListed_7_eq (s : mSt) (x1 : Int32) : mo_findListed_7 s x1 = (
  if (s 183 41) ≤ x1 then
    mo_findListed_62 s 0
  else
    bI (mo_isOpen s x1) fun v1 s1 =>
      if v1 = 0 then
        mo_findListed_7 s1 (x1 + 1)
      else
        gd (inb x1 8) (
          if (s1 215 x1.toNatClampNeg) = (-4) then
            gd (inb (s1 183 56) 8) (
              mo_findListed_7 (wr (wr s1 221 ((s1 183 56)).toNatClampNeg x1) 183 56 ((s1 183 56) + 1)) (x1 + 1))
          else
            mo_findListed_7 s1 (x1 + 1)) : mO) := (EV_un 2000 218 7 [some (pA 183), some (pI x1)] [] s).trans rfl
set_option maxRecDepth 100000 in
set_option maxHeartbeats 4000000 in
theorem mo_findListed_62_eq (s : mSt) (x1 : Int32) : mo_findListed_62 s x1 = (
  if (s 183 3) ≤ x1 then
    mo_findListed_119 s 0
  else
    bI (mo_lightIn s x1 (s 183 10)) fun v1 s1 =>
      if (s1 192 1) ≤ v1 then
        gd (inb x1 12) (
          gd (inb x1 12) (
            mo_findListed_62 (wr s1 201 x1.toNatClampNeg ((s1 192 5) * (s1 189 x1.toNatClampNeg))) (x1 + 1)))
      else
        gd (inb x1 12) (
          mo_findListed_62 (wr s1 201 x1.toNatClampNeg 0) (x1 + 1)) : mO) := (EV_un 2000 218 62 [some (pA 183), some (pI x1)] [] s).trans rfl
set_option maxRecDepth 100000 in
set_option maxHeartbeats 4000000 in
theorem mo_findListed_119_eq (s : mSt) (x1 : Int32) : mo_findListed_119 s x1 = (
  if (s 183 56) ≤ x1 then
    rV s
  else
    gd (inb x1 8) (
      gd (inb (s 221 x1.toNatClampNeg) 8) (
        bI (mo_aheadOf s (s 209 ((s 221 x1.toNatClampNeg)).toNatClampNeg)) fun v1 s1 =>
          gd (inb x1 8) (
            mo_findListed_119 (wr s1 222 x1.toNatClampNeg v1) (x1 + 1)))) : mO) := (EV_un 2000 218 119 [some (pA 183), some (pI x1)] [] s).trans rfl
set_option maxRecDepth 100000 in
set_option maxHeartbeats 4000000 in
theorem mo_findOrder_eq (s : mSt) : mo_findOrder s = (
  bV (mo_findListed s) fun s1 =>
    mo_findOrder_6 s1 0 : mO) := (EV_un 2000 222 0 [some (pA 183), none, none, none, none, none, none, none, none, none, none, none, none] [] s).trans rfl
set_option maxRecDepth 100000 in
set_option maxHeartbeats 4000000 in
theorem mo_findOrder_6_eq (s : mSt) (x1 : Int32) : mo_findOrder_6 s x1 = (
  if (s 183 49) ≤ x1 then
    mo_findOrder_60 s 1 0
  else
    mo_findOrder_16 s x1 0 : mO) := (EV_un 2000 222 6 [some (pA 183), some (pI x1), none, none, none, none, none, none, none, none, none, none, none] [] s).trans rfl
set_option maxRecDepth 100000 in
set_option maxHeartbeats 4000000 in
theorem mo_findOrder_60_eq (s : mSt) (x1 : Int32) (x2 : Int32) : mo_findOrder_60 s x1 x2 = (
  if (s 183 56) ≤ x2 then
    mo_findOrder_85 s x1 0 0
  else
    mo_findOrder_60 s (x1 * (s 183 49)) (x2 + 1) : mO) := (EV_un 2000 222 60 [some (pA 183), some (pI x1), some (pI x2), none, none, none, none, none, none, none, none, none, none] [] s).trans rfl
set_option maxRecDepth 100000 in
set_option maxHeartbeats 4000000 in
theorem mo_findOrder_16_eq (s : mSt) (x1 : Int32) (x2 : Int32) : mo_findOrder_16 s x1 x2 = (
  if (1 <<< ((s 183 56) &&& 31)) ≤ x2 then
    mo_findOrder_6 s (x1 + 1)
  else
    bI (mo_costBy s x1 x2) fun v1 s1 =>
      gd (inb ((128 * x1) + x2) 384) (
        mo_findOrder_16 (wr s1 223 (((128 * x1) + x2)).toNatClampNeg v1) x1 (x2 + 1)) : mO) := (EV_un 2000 222 16 [some (pA 183), some (pI x1), some (pI x2), none, none, none, none, none, none, none, none, none, none] [] s).trans rfl
set_option maxRecDepth 100000 in
set_option maxHeartbeats 4000000 in
theorem mo_findOrder_85_eq (s : mSt) (x1 : Int32) (x2 : Int32) (x3 : Int32) : mo_findOrder_85 s x1 x2 x3 = (
  if x1 ≤ x3 then
    gd (bz x2) (rI x2 s)
  else
    mo_findOrder_110 s x1 x2 x3 x3 0 0 0 ((s 183 56) - 1) : mO) := (EV_un 2000 222 85 [some (pA 183), some (pI x1), some (pI x2), some (pI x3), none, none, none, none, none, none, none, none, none] [] s).trans rfl
set_option maxRecDepth 100000 in
set_option maxHeartbeats 4000000 in
theorem mo_findOrder_110_eq (s : mSt) (x1 : Int32) (x2 : Int32) (x3 : Int32) (x4 : Int32) (x5 : Int32) (x6 : Int32) (x7 : Int32) (x8 : Int32) : mo_findOrder_110 s x1 x2 x3 x4 x5 x6 x7 x8 = (
  if x8 < 0 then
    if (s 183 49) ≤ 0 then
      mo_findOrder_213 s x1 x2 x3 x5 x6 x7 0
    else
      gd (inb x5 384) (
        mo_findOrder_213 s x1 x2 x3 x5 x6 x7 (s 223 x5.toNatClampNeg))
  else
    gd (!(decide ((s 183 49) = (0 : Int32)))) (
      gd (!(decide ((s 183 49) = (0 : Int32)))) (
        if (x4 - x4 / (s 183 49) * (s 183 49)) = 0 then
          mo_findOrder_148 s x1 x2 x3 (x4 / (s 183 49)) x6 x7 x8 (x4 - x4 / (s 183 49) * (s 183 49)) (1 <<< (x8 &&& 31)) x5
        else
          mo_findOrder_148 s x1 x2 x3 (x4 / (s 183 49)) x6 x7 x8 (x4 - x4 / (s 183 49) * (s 183 49)) 0 x5)) : mO) := (EV_un 2000 222 110 [some (pA 183), some (pI x1), some (pI x2), some (pI x3), some (pI x4), some (pI x5), some (pI x6), some (pI x7), some (pI x8), none, none, none, none] [] s).trans rfl
set_option maxRecDepth 100000 in
set_option maxHeartbeats 4000000 in
theorem mo_findOrder_213_eq (s : mSt) (x1 : Int32) (x2 : Int32) (x3 : Int32) (x5 : Int32) (x6 : Int32) (x7 : Int32) (t0 : Int32) : mo_findOrder_213 s x1 x2 x3 x5 x6 x7 t0 = (
  if (s 183 49) ≤ 1 then
    mo_findOrder_238 s x1 x2 x3 x5 x6 x7 t0 0
  else
    gd (inb (128 + x6) 384) (
      mo_findOrder_238 s x1 x2 x3 x5 x6 x7 t0 (s 223 ((128 + x6)).toNatClampNeg)) : mO) := (EV_un 2000 222 213 [some (pA 183), some (pI x1), some (pI x2), some (pI x3), none, some (pI x5), some (pI x6), some (pI x7), none, none, none, none, none] [(pI t0)] s).trans rfl
set_option maxRecDepth 100000 in
set_option maxHeartbeats 4000000 in
theorem mo_findOrder_148_eq (s : mSt) (x1 : Int32) (x2 : Int32) (x3 : Int32) (x4 : Int32) (x6 : Int32) (x7 : Int32) (x8 : Int32) (x9 : Int32) (t0 : Int32) (t1 : Int32) : mo_findOrder_148 s x1 x2 x3 x4 x6 x7 x8 x9 t0 t1 = (
  if x9 = 1 then
    mo_findOrder_167 s x1 x2 x3 x4 (t1 ||| t0) x7 x8 x9 (1 <<< (x8 &&& 31)) x6
  else
    mo_findOrder_167 s x1 x2 x3 x4 (t1 ||| t0) x7 x8 x9 0 x6 : mO) := (EV_un 2000 222 148 [some (pA 183), some (pI x1), some (pI x2), some (pI x3), some (pI x4), none, some (pI x6), some (pI x7), some (pI x8), some (pI x9), none, none, none] [(pI t0), (pI t1)] s).trans rfl
set_option maxRecDepth 100000 in
set_option maxHeartbeats 4000000 in
theorem mo_findOrder_238_eq (s : mSt) (x1 : Int32) (x2 : Int32) (x3 : Int32) (x5 : Int32) (x6 : Int32) (x7 : Int32) (x8 : Int32) (t0 : Int32) : mo_findOrder_238 s x1 x2 x3 x5 x6 x7 x8 t0 = (
  if (s 183 49) ≤ 2 then
    mo_findOrder_263 s x1 x2 x3 x5 x6 x8 t0 0
  else
    gd (inb (256 + x7) 384) (
      mo_findOrder_263 s x1 x2 x3 x5 x6 x8 t0 (s 223 ((256 + x7)).toNatClampNeg)) : mO) := (EV_un 2000 222 238 [some (pA 183), some (pI x1), some (pI x2), some (pI x3), none, some (pI x5), some (pI x6), some (pI x7), some (pI x8), none, none, none, none] [(pI t0)] s).trans rfl
set_option maxRecDepth 100000 in
set_option maxHeartbeats 4000000 in
theorem mo_findOrder_167_eq (s : mSt) (x1 : Int32) (x2 : Int32) (x3 : Int32) (x4 : Int32) (x5 : Int32) (x7 : Int32) (x8 : Int32) (x9 : Int32) (t0 : Int32) (t1 : Int32) : mo_findOrder_167 s x1 x2 x3 x4 x5 x7 x8 x9 t0 t1 = (
  if x9 = 2 then
    mo_findOrder_110 s x1 x2 x3 x4 x5 (t1 ||| t0) (x7 ||| (1 <<< (x8 &&& 31))) (x8 + (-1))
  else
    mo_findOrder_110 s x1 x2 x3 x4 x5 (t1 ||| t0) (x7 ||| 0) (x8 + (-1)) : mO) := (EV_un 2000 222 167 [some (pA 183), some (pI x1), some (pI x2), some (pI x3), some (pI x4), some (pI x5), none, some (pI x7), some (pI x8), some (pI x9), none, none, none] [(pI t0), (pI t1)] s).trans rfl
set_option maxRecDepth 100000 in
set_option maxHeartbeats 4000000 in
theorem mo_findOrder_263_eq (s : mSt) (x1 : Int32) (x2 : Int32) (x3 : Int32) (x5 : Int32) (x6 : Int32) (x8 : Int32) (x9 : Int32) (t0 : Int32) : mo_findOrder_263 s x1 x2 x3 x5 x6 x8 x9 t0 = (
  if (1000000000 : Int32) ≤ x8 then
    mo_findOrder_294 s x1 x2 x3 x5 x6 x8 x9 t0 0
  else
    if (1000000000 : Int32) ≤ x9 then
      mo_findOrder_294 s x1 x2 x3 x5 x6 x8 x9 t0 0
    else
      if (1000000000 : Int32) ≤ t0 then
        mo_findOrder_294 s x1 x2 x3 x5 x6 x8 x9 t0 0
      else
        mo_findOrder_294 s x1 x2 x3 x5 x6 x8 x9 t0 1 : mO) := (EV_un 2000 222 263 [some (pA 183), some (pI x1), some (pI x2), some (pI x3), none, some (pI x5), some (pI x6), none, some (pI x8), some (pI x9), none, none, none] [(pI t0)] s).trans rfl
set_option maxRecDepth 100000 in
set_option maxHeartbeats 4000000 in
theorem mo_findOrder_294_eq (s : mSt) (x1 : Int32) (x2 : Int32) (x3 : Int32) (x5 : Int32) (x6 : Int32) (x8 : Int32) (x9 : Int32) (x10 : Int32) (t0 : Int32) : mo_findOrder_294 s x1 x2 x3 x5 x6 x8 x9 x10 t0 = (
  if t0 = 0 then
    mo_findOrder_85 s x1 x2 (x3 + 1)
  else
    if x2 = 0 then
      mo_findOrder_320 s x1 x3 x5 x6 x8 x9 x10
    else
      if (s 183 60) ≤ ((x8 + x9) + x10) then
        mo_findOrder_85 s x1 x2 (x3 + 1)
      else
        mo_findOrder_320 s x1 x3 x5 x6 x8 x9 x10 : mO) := (EV_un 2000 222 294 [some (pA 183), some (pI x1), some (pI x2), some (pI x3), none, some (pI x5), some (pI x6), none, some (pI x8), some (pI x9), some (pI x10), none, none] [(pI t0)] s).trans rfl
set_option maxRecDepth 100000 in
set_option maxHeartbeats 4000000 in
theorem mo_findOrder_320_eq (s : mSt) (x1 : Int32) (x3 : Int32) (x5 : Int32) (x6 : Int32) (x8 : Int32) (x9 : Int32) (x10 : Int32) : mo_findOrder_320 s x1 x3 x5 x6 x8 x9 x10 = (
  mo_findOrder_337 (wr s 183 60 ((x8 + x9) + x10)) x1 1 x3 x5 x6 0 : mO) := (EV_un 2000 222 320 [some (pA 183), some (pI x1), none, some (pI x3), none, some (pI x5), some (pI x6), none, some (pI x8), some (pI x9), some (pI x10), none, none] [] s).trans rfl
set_option maxRecDepth 100000 in
set_option maxHeartbeats 4000000 in
theorem mo_findOrder_337_eq (s : mSt) (x1 : Int32) (x2 : Int32) (x3 : Int32) (x5 : Int32) (x6 : Int32) (x12 : Int32) : mo_findOrder_337 s x1 x2 x3 x5 x6 x12 = (
  if (s 183 56) ≤ x12 then
    mo_findOrder_85 s x1 x2 (x3 + 1)
  else
    if ((x5 >>> (x12 &&& 31)) &&& 1) = 1 then
      gd (inb x12 8) (
        mo_findOrder_337 (wr s 225 x12.toNatClampNeg 0) x1 x2 x3 x5 x6 (x12 + 1))
    else
      if ((x6 >>> (x12 &&& 31)) &&& 1) = 1 then
        gd (inb x12 8) (
          mo_findOrder_337 (wr s 225 x12.toNatClampNeg 1) x1 x2 x3 x5 x6 (x12 + 1))
      else
        gd (inb x12 8) (
          mo_findOrder_337 (wr s 225 x12.toNatClampNeg 2) x1 x2 x3 x5 x6 (x12 + 1)) : mO) := (EV_un 2000 222 337 [some (pA 183), some (pI x1), some (pI x2), some (pI x3), none, some (pI x5), some (pI x6), none, none, none, none, none, some (pI x12)] [] s).trans rfl
set_option maxRecDepth 100000 in
set_option maxHeartbeats 4000000 in
theorem mo_bits_eq (s : mSt) (x0 : Int32) : mo_bits s x0 = (
  mo_bits_4 s x0 0 0 : mO) := (EV_un 2000 149 0 [some (pI x0), none, none] [] s).trans rfl
set_option maxRecDepth 100000 in
set_option maxHeartbeats 4000000 in
theorem mo_bits_4_eq (s : mSt) (x0 : Int32) (x1 : Int32) (x2 : Int32) : mo_bits_4 s x0 x1 x2 = (
  if (16 : Int32) ≤ x2 then
    rI x1 s
  else
    mo_bits_4 s x0 (x1 + ((x0 >>> (x2 &&& 31)) &&& 1)) (x2 + 1) : mO) := (EV_un 2000 149 4 [some (pI x0), some (pI x1), some (pI x2)] [] s).trans rfl
set_option maxRecDepth 100000 in
set_option maxHeartbeats 4000000 in
theorem mo_coins_eq (s : mSt) (x1 : Int32) (x2 : Int32) (x3 : Int32) : mo_coins s x1 x2 x3 = (
  mo_coins_6 s x1 x2 x3 0 0 : mO) := (EV_un 2000 226 0 [some (pA 183), some (pI x1), some (pI x2), some (pI x3), none, none, none] [] s).trans rfl
set_option maxRecDepth 100000 in
set_option maxHeartbeats 4000000 in
theorem mo_coins_6_eq (s : mSt) (x1 : Int32) (x2 : Int32) (x3 : Int32) (x4 : Int32) (x5 : Int32) : mo_coins_6 s x1 x2 x3 x4 x5 = (
  if (s 183 15) ≤ x5 then
    rI x4 s
  else
    gd (inb ((6 * x5) + 3) 48) (
      mo_coins_29 s x1 x2 x3 x4 x5 (s 195 (((6 * x5) + 3)).toNatClampNeg)) : mO) := (EV_un 2000 226 6 [some (pA 183), some (pI x1), some (pI x2), some (pI x3), some (pI x4), some (pI x5), none] [] s).trans rfl
set_option maxRecDepth 100000 in
set_option maxHeartbeats 4000000 in
theorem mo_coins_29_eq (s : mSt) (x1 : Int32) (x2 : Int32) (x3 : Int32) (x4 : Int32) (x5 : Int32) (x6 : Int32) : mo_coins_29 s x1 x2 x3 x4 x5 x6 = (
  gd (inb ((6 * x5) + 4) 48) (
    if (s 195 (((6 * x5) + 4)).toNatClampNeg) ≤ x6 then
      mo_coins_6 s x1 x2 x3 x4 (x5 + 1)
    else
      if (s 183 11) ≤ x6 then
        mo_coins_6 s x1 x2 x3 x4 (x5 + 1)
      else
        gd (inb (6 * x5) 48) (
          if (s 195 ((6 * x5)).toNatClampNeg) = x1 then
            gd (inb ((6 * x5) + 1) 48) (
              bI (mo_wasOpen s (s 195 (((6 * x5) + 1)).toNatClampNeg) x6 x2) fun v1 s1 =>
                if v1 = x3 then
                  gd (inb ((6 * x5) + 5) 48) (
                    mo_coins_29 s1 x1 x2 x3 (x4 + (s1 195 (((6 * x5) + 5)).toNatClampNeg)) x5 (x6 + 1))
                else
                  mo_coins_29 s1 x1 x2 x3 (x4 + 0) x5 (x6 + 1))
          else
            mo_coins_6 s x1 x2 x3 x4 (x5 + 1))) : mO) := (EV_un 2000 226 29 [some (pA 183), some (pI x1), some (pI x2), some (pI x3), some (pI x4), some (pI x5), some (pI x6)] [] s).trans rfl
set_option maxRecDepth 100000 in
set_option maxHeartbeats 4000000 in
theorem mo_isSafe_eq (s : mSt) (x1 : Int32) (x2 : Int32) : mo_isSafe s x1 x2 = (
  mo_isSafe_5 s x1 x2 1 0 : mO) := (EV_un 2000 231 0 [some (pA 183), some (pI x1), some (pI x2), none, none, none] [] s).trans rfl
set_option maxRecDepth 100000 in
set_option maxHeartbeats 4000000 in
theorem mo_isSafe_5_eq (s : mSt) (x1 : Int32) (x2 : Int32) (x3 : Int32) (x4 : Int32) : mo_isSafe_5 s x1 x2 x3 x4 = (
  if (20 : Int32) ≤ x4 then
    gd (bz x3) (rI x3 s)
  else
    mo_isSafe_16 s x1 x2 x3 x4 x4 : mO) := (EV_un 2000 231 5 [some (pA 183), some (pI x1), some (pI x2), some (pI x3), some (pI x4), none] [] s).trans rfl
set_option maxRecDepth 100000 in
set_option maxHeartbeats 4000000 in
theorem mo_isSafe_16_eq (s : mSt) (x1 : Int32) (x2 : Int32) (x3 : Int32) (x4 : Int32) (x5 : Int32) : mo_isSafe_16 s x1 x2 x3 x4 x5 = (
  if (20 : Int32) ≤ x5 then
    mo_isSafe_5 s x1 x2 x3 (x4 + 1)
  else
    if x3 = 0 then
      mo_isSafe_5 s x1 x2 x3 (x4 + 1)
    else
      bI (mo_areJoined s x1 x2 x4 x5) fun v1 s1 =>
        mo_isSafe_16 s1 x1 x2 v1 x4 (x5 + 1) : mO) := (EV_un 2000 231 16 [some (pA 183), some (pI x1), some (pI x2), some (pI x3), some (pI x4), some (pI x5)] [] s).trans rfl
set_option maxRecDepth 100000 in
set_option maxHeartbeats 4000000 in
theorem mo_isSheet_eq (s : mSt) (x0 : Int32) (x1 : Int32) : mo_isSheet s x0 x1 = (
  bI (mo_in s x0.toInt64 0 3) fun v1 s1 =>
    if v1 = 0 then
      rI 0 s1
    else
      bI (mo_in s1 x1.toInt64 0 2) fun v2 s2 =>
        if v2 = 0 then
          rI 0 s2
        else
          rI 1 s2 : mO) := (EV_un 2000 233 0 [some (pI x0), some (pI x1)] [] s).trans rfl
set_option maxRecDepth 100000 in
set_option maxHeartbeats 4000000 in
theorem mo_isCut_eq (s : mSt) (x1 : Int32) : mo_isCut s x1 = (
  mo_isCut_4 s x1 0 0 : mO) := (EV_un 2000 160 0 [some (pA 183), some (pI x1), none, none] [] s).trans rfl
set_option maxRecDepth 100000 in
set_option maxHeartbeats 4000000 in
theorem mo_isCut_4_eq (s : mSt) (x1 : Int32) (x2 : Int32) (x3 : Int32) : mo_isCut_4 s x1 x2 x3 = (
  if (s 183 41) ≤ x3 then
    gd (bz x2) (rI x2 s)
  else
    if x2 = 0 then
      gd (inb x3 8) (
        if (s 209 x3.toNatClampNeg) = x1 then
          bI (mo_isOpen s x3) fun v1 s1 =>
            if v1 = 0 then
              mo_isCut_4 s1 x1 0 (x3 + 1)
            else
              mo_isCut_4 s1 x1 1 (x3 + 1)
        else
          mo_isCut_4 s x1 0 (x3 + 1))
    else
      mo_isCut_4 s x1 1 (x3 + 1) : mO) := (EV_un 2000 160 4 [some (pA 183), some (pI x1), some (pI x2), some (pI x3)] [] s).trans rfl
set_option maxRecDepth 100000 in
set_option maxHeartbeats 4000000 in
theorem mo_findWay_eq (s : mSt) (x1 : Int32) : mo_findWay s x1 = (
  mo_findWay_2 s x1 0 : mO) := (EV_un 2000 190 0 [some (pA 183), some (pI x1), none, none, none, none] [] s).trans rfl
set_option maxRecDepth 100000 in
set_option maxHeartbeats 4000000 in
theorem mo_findWay_2_eq (s : mSt) (x1 : Int32) (x2 : Int32) : mo_findWay_2 s x1 x2 = (
  if (s 183 0) ≤ x2 then
    mo_findWay_41 s x1 0
  else
    gd (inb x1 12) (
      if x2 = (s 199 x1.toNatClampNeg) then
        gd (inb x2 8) (
          mo_findWay_2 (wr s 205 x2.toNatClampNeg 0) x1 (x2 + 1))
      else
        gd (inb x2 8) (
          mo_findWay_2 (wr s 205 x2.toNatClampNeg 1000000) x1 (x2 + 1))) : mO) := (EV_un 2000 190 2 [some (pA 183), some (pI x1), some (pI x2), none, none, none] [] s).trans rfl
set_option maxRecDepth 100000 in
set_option maxHeartbeats 4000000 in
theorem mo_findWay_41_eq (s : mSt) (x1 : Int32) (x2 : Int32) : mo_findWay_41 s x1 x2 = (
  if (s 183 0) ≤ x2 then
    gd (inb x1 12) (
      gd (inb x1 12) (
        gd (inb (s 198 x1.toNatClampNeg) 8) (
          if (s 205 ((s 198 x1.toNatClampNeg)).toNatClampNeg) < 1000000 then
            gd (inb x1 12) (
              mo_findWay_241 (wr s 203 x1.toNatClampNeg (-4)) x1 0 (s 198 x1.toNatClampNeg))
          else
            rV (wr s 203 x1.toNatClampNeg (-4)))))
  else
    mo_findWay_51 s x1 x2 0 : mO) := (EV_un 2000 190 41 [some (pA 183), some (pI x1), some (pI x2), none, none, none] [] s).trans rfl
set_option maxRecDepth 100000 in
set_option maxHeartbeats 4000000 in
theorem mo_findWay_241_eq (s : mSt) (x1 : Int32) (x2 : Int32) (x3 : Int32) : mo_findWay_241 s x1 x2 x3 = (
  gd (inb x1 12) (
    if x3 = (s 199 x1.toNatClampNeg) then
      gd (inb x1 12) (
        rV (wr s 203 x1.toNatClampNeg x2))
    else
      mo_findWay_254 s x1 x2 x3 0) : mO) := (EV_un 2000 190 241 [some (pA 183), some (pI x1), some (pI x2), some (pI x3), none, none] [] s).trans rfl
set_option maxRecDepth 100000 in
set_option maxHeartbeats 4000000 in
theorem mo_findWay_51_eq (s : mSt) (x1 : Int32) (x2 : Int32) (x3 : Int32) : mo_findWay_51 s x1 x2 x3 = (
  if (s 183 3) ≤ x3 then
    mo_findWay_41 s x1 (x2 + 1)
  else
    gd (inb x3 12) (
      gd (inb x3 12) (
        gd (inb x3 12) (
          if (s 206 x3.toNatClampNeg) < 0 then
            mo_findWay_51 s x1 x2 (x3 + 1)
          else
            gd (inb (s 187 x3.toNatClampNeg) 8) (
              gd (inb x3 12) (
                gd (inb (s 186 x3.toNatClampNeg) 8) (
                  if (s 205 ((s 186 x3.toNatClampNeg)).toNatClampNeg) ≤ ((s 205 ((s 187 x3.toNatClampNeg)).toNatClampNeg) + (s 206 x3.toNatClampNeg)) then
                    gd (inb (s 186 x3.toNatClampNeg) 8) (
                      mo_findWay_138 s x1 x2 x3 (s 186 x3.toNatClampNeg) (s 187 x3.toNatClampNeg) (s 205 ((s 186 x3.toNatClampNeg)).toNatClampNeg) (s 186 x3.toNatClampNeg))
                  else
                    gd (inb (s 187 x3.toNatClampNeg) 8) (
                      gd (inb x3 12) (
                        mo_findWay_138 s x1 x2 x3 (s 186 x3.toNatClampNeg) (s 187 x3.toNatClampNeg) ((s 205 ((s 187 x3.toNatClampNeg)).toNatClampNeg) + (s 206 x3.toNatClampNeg)) (s 186 x3.toNatClampNeg))))))))) : mO) := (EV_un 2000 190 51 [some (pA 183), some (pI x1), some (pI x2), some (pI x3), none, none] [] s).trans rfl
set_option maxRecDepth 100000 in
set_option maxHeartbeats 4000000 in
theorem mo_findWay_254_eq (s : mSt) (x1 : Int32) (x2 : Int32) (x3 : Int32) (x4 : Int32) : mo_findWay_254 s x1 x2 x3 x4 = (
  gd (inb x4 12) (
    if (s 206 x4.toNatClampNeg) < 0 then
      mo_findWay_254 s x1 x2 x3 (x4 + 1)
    else
      bI (mo_other s x4 x3) fun v1 s1 =>
        if v1 = (-4) then
          mo_findWay_254 s1 x1 x2 x3 (x4 + 1)
        else
          bI (mo_other s1 x4 x3) fun v2 s2 =>
            gd (inb v2 8) (
              gd (inb x4 12) (
                gd (inb x3 8) (
                  if ((s2 205 v2.toNatClampNeg) + (s2 206 x4.toNatClampNeg)) = (s2 205 x3.toNatClampNeg) then
                    gd (inb ((8 * x1) + x2) 96) (
                      bI (mo_other (wr s2 204 (((8 * x1) + x2)).toNatClampNeg x4) x4 x3) fun v3 s3 =>
                        mo_findWay_241 s3 x1 (x2 + 1) v3)
                  else
                    mo_findWay_254 s2 x1 x2 x3 (x4 + 1))))) : mO) := (EV_un 2000 190 254 [some (pA 183), some (pI x1), some (pI x2), some (pI x3), some (pI x4), none] [] s).trans rfl
set_option maxRecDepth 100000 in
set_option maxHeartbeats 4000000 in
theorem mo_findWay_138_eq (s : mSt) (x1 : Int32) (x2 : Int32) (x3 : Int32) (x4 : Int32) (x5 : Int32) (t0 : Int32) (t1 : Int32) : mo_findWay_138 s x1 x2 x3 x4 x5 t0 t1 = (
  gd (inb t1 8) (
    gd (inb x4 8) (
      gd (inb x3 12) (
        gd (inb x5 8) (
          if ((wr s 205 t1.toNatClampNeg t0) 205 x5.toNatClampNeg) ≤ (((wr s 205 t1.toNatClampNeg t0) 205 x4.toNatClampNeg) + (s 206 x3.toNatClampNeg)) then
            gd (inb x5 8) (
              gd (inb x5 8) (
                mo_findWay_51 (wr (wr s 205 t1.toNatClampNeg t0) 205 x5.toNatClampNeg ((wr s 205 t1.toNatClampNeg t0) 205 x5.toNatClampNeg)) x1 x2 (x3 + 1)))
          else
            gd (inb x4 8) (
              gd (inb x3 12) (
                gd (inb x5 8) (
                  mo_findWay_51 (wr (wr s 205 t1.toNatClampNeg t0) 205 x5.toNatClampNeg (((wr s 205 t1.toNatClampNeg t0) 205 x4.toNatClampNeg) + (s 206 x3.toNatClampNeg))) x1 x2 (x3 + 1)))))))) : mO) := (EV_un 2000 190 138 [some (pA 183), some (pI x1), some (pI x2), some (pI x3), some (pI x4), some (pI x5)] [(pI t0), (pI t1), (pA 205)] s).trans rfl
set_option maxRecDepth 100000 in
set_option maxHeartbeats 4000000 in
theorem mo_look_eq (s : mSt) (x1 : Int32) : mo_look s x1 = (
  if (s 183 20) ≤ x1 then
    rI (-1) s
  else
    gd (inb x1 240) (
      rI (s 197 x1.toNatClampNeg) s) : mO) := (EV_un 2000 171 0 [some (pA 183), some (pI x1)] [] s).trans rfl
set_option maxRecDepth 100000 in
set_option maxHeartbeats 4000000 in
theorem mo_wants_eq (s : mSt) (x1 : Int32) (x2 : Int32) : mo_wants s x1 x2 = (
  if x1 = 0 then
    if (s 183 25) = 0 then
      rV (wr (wr s 183 25 x2) 183 26 (s 183 22))
    else
      rV s
  else
    rV s : mO) := (EV_un 2000 170 0 [some (pA 183), some (pI x1), some (pI x2)] [] s).trans rfl
set_option maxRecDepth 100000 in
set_option maxHeartbeats 4000000 in
theorem mo_nameNow_eq (s : mSt) : mo_nameNow s = (
  bI (mo_is s 4 115 101 110 100) fun v1 s1 =>
    if v1 = 0 then
      bI (mo_is s1 4 110 101 101 100) fun v2 s2 =>
        if v2 = 0 then
          bI (mo_is s2 4 108 111 115 115) fun v3 s3 =>
            if v3 = 0 then
              bI (mo_is s3 6 115 112 108 105) fun v4 s4 =>
                if v4 = 0 then
                  mo_nameNow_103 s4
                else
                  bI (mo_look s4 ((s4 183 22) + 4)) fun v5 s5 =>
                    if v5 = 99 then
                      bI (mo_look s5 ((s5 183 22) + 5)) fun v6 s6 =>
                        if v6 = 101 then
                          rI 3 s6
                        else
                          mo_nameNow_103 s6
                    else
                      mo_nameNow_103 s5
            else
              rI 2 s3
        else
          rI 1 s2
    else
      rI 0 s1 : mO) := (EV_un 2000 174 0 [some (pA 183)] [] s).trans rfl
set_option maxRecDepth 100000 in
set_option maxHeartbeats 4000000 in
theorem mo_nameNow_103_eq (s : mSt) : mo_nameNow_103 s = (
  bI (mo_is s 3 97 103 101 0) fun v1 s1 =>
    if v1 = 0 then
      bI (mo_is s1 4 114 111 111 109) fun v2 s2 =>
        if v2 = 0 then
          bI (mo_is s2 4 109 101 110 100) fun v3 s3 =>
            if v3 = 0 then
              bI (mo_is s3 4 115 97 105 108) fun v4 s4 =>
                if v4 = 0 then
                  bI (mo_is s4 4 114 101 110 116) fun v5 s5 =>
                    if v5 = 0 then
                      bI (mo_is s5 4 102 114 111 109) fun v6 s6 =>
                        if v6 = 0 then
                          bI (mo_is s6 2 116 111 0 0) fun v7 s7 =>
                            if v7 = 0 then
                              bI (mo_is s7 3 102 111 114 0) fun v8 s8 =>
                                if v8 = 0 then
                                  rI (-4) s8
                                else
                                  rI 11 s8
                            else
                              rI 10 s7
                        else
                          rI 9 s6
                    else
                      rI 8 s5
                else
                  rI 7 s4
            else
              rI 6 s3
        else
          rI 5 s2
    else
      rI 4 s1 : mO) := (EV_un 2000 174 103 [some (pA 183)] [] s).trans rfl
set_option maxRecDepth 100000 in
set_option maxHeartbeats 4000000 in
theorem mo_readRent_eq (s : mSt) : mo_readRent s = (
  if (s 183 23) = 1 then
    if ((s 183 21) - (s 183 22)) = 1 then
      bI (mo_look s (s 183 22)) fun v1 s1 =>
        bI (mo_in s1 v1.toInt64 97 102) fun v2 s2 =>
          if v2 = 0 then
            mo_readRent_48 s2 0
          else
            mo_readRent_48 s2 1
    else
      mo_readRent_48 s 0
  else
    mo_readRent_48 s 0 : mO) := (EV_un 2000 177 0 [some (pA 183), none, none, none, none, none, none] [] s).trans rfl
set_option maxRecDepth 100000 in
set_option maxHeartbeats 4000000 in
theorem mo_readRent_48_eq (s : mSt) (t0 : Int32) : mo_readRent_48 s t0 = (
  bV (mo_wants s t0 2) fun s1 =>
    bI (mo_look s1 (s1 183 22)) fun v2 s2 =>
      bV (mo_next s2) fun s3 =>
        bI (mo_readNumber s3 0 11) fun v4 s4 =>
          bI (mo_readNumber s4 1 8) fun v5 s5 =>
            bV (mo_readName s5 9) fun s6 =>
              bI (mo_readNumber s6 0 998) fun v7 s7 =>
                bV (mo_readName s7 10) fun s8 =>
                  bI (mo_readNumber s8 (v7 + 1) 999) fun v9 s9 =>
                    bV (mo_readName s9 11) fun s10 =>
                      bI (mo_readNumber s10 0 99) fun v11 s11 =>
                        if (s11 183 25) = 0 then
                          gd (inb (6 * (s11 183 17)) 48) (
                            gd (inb ((6 * (s11 183 17)) + 1) 48) (
                              gd (inb ((6 * (s11 183 17)) + 2) 48) (
                                gd (inb ((6 * (s11 183 17)) + 3) 48) (
                                  gd (inb ((6 * (s11 183 17)) + 4) 48) (
                                    gd (inb ((6 * (s11 183 17)) + 5) 48) (
                                      rV (wr (wr (wr (wr (wr (wr (wr s11 196 ((6 * (s11 183 17))).toNatClampNeg (v2 - 97)) 196 (((6 * (s11 183 17)) + 1)).toNatClampNeg v4) 196 (((6 * (s11 183 17)) + 2)).toNatClampNeg v5) 196 (((6 * (s11 183 17)) + 3)).toNatClampNeg v7) 196 (((6 * (s11 183 17)) + 4)).toNatClampNeg v9) 196 (((6 * (s11 183 17)) + 5)).toNatClampNeg v11) 183 17 ((s11 183 17) + 1))))))))
                        else
                          rV s11 : mO) := (EV_un 2000 177 48 [some (pA 183), none, none, none, none, none, none] [(pI t0), (pA 183)] s).trans rfl
set_option maxRecDepth 100000 in
set_option maxHeartbeats 4000000 in
theorem mo_least_eq (s : mSt) (x0 : Int32) : mo_least s x0 = (
  if (5 : Int32) ≤ x0 then
    rI 1 s
  else
    rI 0 s : mO) := (EV_un 2000 178 0 [some (pI x0)] [] s).trans rfl
set_option maxRecDepth 100000 in
set_option maxHeartbeats 4000000 in
theorem mo_most_eq (s : mSt) (x0 : Int32) : mo_most s x0 = (
  if (2 : Int32) ≤ x0 then
    if x0 = 5 then
      rI 50 s
    else
      rI 20 s
  else
    rI 999 s : mO) := (EV_un 2000 179 0 [some (pI x0)] [] s).trans rfl
set_option maxRecDepth 100000 in
set_option maxHeartbeats 4000000 in
theorem mo_readNumber_eq (s : mSt) (x1 : Int32) (x2 : Int32) : mo_readNumber s x1 x2 = (
  if (s 183 23) = 2 then
    mo_readNumber_14 s x1 x2 1
  else
    mo_readNumber_14 s x1 x2 0 : mO) := (EV_un 2000 175 0 [some (pA 183), some (pI x1), some (pI x2), none] [] s).trans rfl
set_option maxRecDepth 100000 in
set_option maxHeartbeats 4000000 in
theorem mo_readNumber_14_eq (s : mSt) (x1 : Int32) (x2 : Int32) (t0 : Int32) : mo_readNumber_14 s x1 x2 t0 = (
  bV (mo_wants s t0 2) fun s1 =>
    if (s1 183 25) = 0 then
      bI (mo_in s1 (s1 183 24).toInt64 x1.toInt64 x2.toInt64) fun v2 s2 =>
        bV (mo_wants s2 v2 3) fun s3 =>
          mo_readNumber_42 s3
    else
      mo_readNumber_42 s1 : mO) := (EV_un 2000 175 14 [some (pA 183), some (pI x1), some (pI x2), none] [(pI t0), (pA 183)] s).trans rfl
set_option maxRecDepth 100000 in
set_option maxHeartbeats 4000000 in
theorem mo_readNumber_42_eq (s : mSt) : mo_readNumber_42 s = (
  bV (mo_next s) fun s1 =>
    rI (s 183 24) s1 : mO) := (EV_un 2000 175 42 [some (pA 183), none, none, none] [] s).trans rfl
set_option maxRecDepth 100000 in
set_option maxHeartbeats 4000000 in
theorem mo_costBy_eq (s : mSt) (x1 : Int32) (x2 : Int32) : mo_costBy s x1 x2 = (
  mo_costBy_5 s x1 x2 0 0 : mO) := (EV_un 2000 220 0 [some (pA 183), some (pI x1), some (pI x2), none, none, none, none, none, none, none, none, none] [] s).trans rfl
set_option maxRecDepth 100000 in
set_option maxHeartbeats 4000000 in
theorem mo_costBy_5_eq (s : mSt) (x1 : Int32) (x2 : Int32) (x3 : Int32) (x4 : Int32) : mo_costBy_5 s x1 x2 x3 x4 = (
  if (s 183 56) ≤ x4 then
    if x2 = 0 then
      if x2 = 0 then
        rI 0 s
      else
        rI 1000000000 s
    else
      gd (inb x1 3) (
        if x3 ≤ (s 218 x1.toNatClampNeg) then
          bI (mo_weightOf s x2) fun v1 s1 =>
            mo_costBy_104 s1 x1 x2 v1 1000000000 1
        else
          if x2 = 0 then
            rI 0 s
          else
            rI 1000000000 s)
  else
    if ((x2 >>> (x4 &&& 31)) &&& 1) = 1 then
      gd (inb x4 8) (
        bI (mo_takesReel s (s 221 x4.toNatClampNeg)) fun v2 s2 =>
          gd (inb x4 8) (
            bI (mo_mayDo s2 x1 (s2 221 x4.toNatClampNeg)) fun v3 s3 =>
              if v3 = 0 then
                rI 1000000000 s3
              else
                mo_costBy_5 s3 x1 x2 (x3 + v2) (x4 + 1)))
    else
      mo_costBy_5 s x1 x2 x3 (x4 + 1) : mO) := (EV_un 2000 220 5 [some (pA 183), some (pI x1), some (pI x2), some (pI x3), some (pI x4), none, none, none, none, none, none, none] [] s).trans rfl
set_option maxRecDepth 100000 in
set_option maxHeartbeats 4000000 in
theorem mo_costBy_104_eq (s : mSt) (x1 : Int32) (x2 : Int32) (x4 : Int32) (x5 : Int32) (x6 : Int32) : mo_costBy_104 s x1 x2 x4 x5 x6 = (
  if x2 < x6 then
    rI x5 s
  else
    mo_costBy_113 s x1 x2 x4 x5 x6 0 : mO) := (EV_un 2000 220 104 [some (pA 183), some (pI x1), some (pI x2), none, some (pI x4), some (pI x5), some (pI x6), none, none, none, none, none] [] s).trans rfl
set_option maxRecDepth 100000 in
set_option maxHeartbeats 4000000 in
theorem mo_costBy_113_eq (s : mSt) (x1 : Int32) (x2 : Int32) (x4 : Int32) (x5 : Int32) (x6 : Int32) (x7 : Int32) : mo_costBy_113 s x1 x2 x4 x5 x6 x7 = (
  if (s 183 56) ≤ x7 then
    mo_costBy_104 s x1 x2 x4 x5 (x6 + 1)
  else
    if (x6 ||| x2) = x2 then
      if ((x6 >>> (x7 &&& 31)) &&& 1) = 1 then
        if (x6 ^^^ (1 <<< (x7 &&& 31))) = 0 then
          bI (mo_startOf s x1) fun v1 s1 =>
            gd (inb x1 3) (
              gd (inb x1 3) (
                gd (inb x7 8) (
                  bI (mo_hoursTo s1 (s1 216 x1.toNatClampNeg) (s1 217 x1.toNatClampNeg) (s1 221 x7.toNatClampNeg)) fun v2 s2 =>
                    mo_costBy_202 s2 x1 x2 x4 x5 x6 x7 (x6 ^^^ (1 <<< (x7 &&& 31))) (((v1 - (s1 183 11)) + v2) * x4) 0)))
        else
          mo_costBy_202 s x1 x2 x4 x5 x6 x7 (x6 ^^^ (1 <<< (x7 &&& 31))) 1000000000 0
      else
        mo_costBy_113 s x1 x2 x4 x5 x6 (x7 + 1)
    else
      mo_costBy_104 s x1 x2 x4 x5 (x6 + 1) : mO) := (EV_un 2000 220 113 [some (pA 183), some (pI x1), some (pI x2), none, some (pI x4), some (pI x5), some (pI x6), some (pI x7), none, none, none, none] [] s).trans rfl
set_option maxRecDepth 100000 in
set_option maxHeartbeats 4000000 in
theorem mo_costBy_202_eq (s : mSt) (x1 : Int32) (x2 : Int32) (x4 : Int32) (x5 : Int32) (x6 : Int32) (x7 : Int32) (x8 : Int32) (x9 : Int32) (x10 : Int32) : mo_costBy_202 s x1 x2 x4 x5 x6 x7 x8 x9 x10 = (
  if (s 183 56) ≤ x10 then
    gd (inb ((7 * x6) + x7) 896) (
      if x6 = x2 then
        if x5 ≤ x9 then
          mo_costBy_113 (wr s 224 (((7 * x6) + x7)).toNatClampNeg x9) x1 x2 x4 x5 x6 (x7 + 1)
        else
          mo_costBy_113 (wr s 224 (((7 * x6) + x7)).toNatClampNeg x9) x1 x2 x4 x9 x6 (x7 + 1)
      else
        mo_costBy_113 (wr s 224 (((7 * x6) + x7)).toNatClampNeg x9) x1 x2 x4 x5 x6 (x7 + 1))
  else
    if ((x8 >>> (x10 &&& 31)) &&& 1) = 1 then
      gd (inb ((7 * x8) + x10) 896) (
        bI (mo_legOf s x10 x7) fun v1 s1 =>
          bI (mo_weightOf s1 x8) fun v2 s2 =>
            if x9 ≤ ((s 224 (((7 * x8) + x10)).toNatClampNeg) + (v1 * (x4 - v2))) then
              mo_costBy_202 s2 x1 x2 x4 x5 x6 x7 x8 x9 (x10 + 1)
            else
              mo_costBy_202 s2 x1 x2 x4 x5 x6 x7 x8 ((s 224 (((7 * x8) + x10)).toNatClampNeg) + (v1 * (x4 - v2))) (x10 + 1))
    else
      mo_costBy_202 s x1 x2 x4 x5 x6 x7 x8 x9 (x10 + 1) : mO) := (EV_un 2000 220 202 [some (pA 183), some (pI x1), some (pI x2), none, some (pI x4), some (pI x5), some (pI x6), some (pI x7), some (pI x8), some (pI x9), some (pI x10), none] [] s).trans rfl
set_option maxRecDepth 100000 in
set_option maxHeartbeats 4000000 in
theorem mo_wasOpen_eq (s : mSt) (x1 : Int32) (x2 : Int32) (x3 : Int32) : mo_wasOpen s x1 x2 x3 = (
  mo_wasOpen_6 s x1 x2 x3 0 0 : mO) := (EV_un 2000 225 0 [some (pA 183), some (pI x1), some (pI x2), some (pI x3), none, none] [] s).trans rfl
set_option maxRecDepth 100000 in
set_option maxHeartbeats 4000000 in
theorem mo_wasOpen_6_eq (s : mSt) (x1 : Int32) (x2 : Int32) (x3 : Int32) (x4 : Int32) (x5 : Int32) : mo_wasOpen_6 s x1 x2 x3 x4 x5 = (
  if (s 183 41) ≤ x5 then
    gd (bz x4) (rI x4 s)
  else
    if x4 = 0 then
      gd (inb x5 8) (
        if (s 209 x5.toNatClampNeg) = x1 then
          gd (inb x5 8) (
            if x3 < (s 211 x5.toNatClampNeg) then
              mo_wasOpen_6 s x1 x2 x3 0 (x5 + 1)
            else
              gd (inb x5 8) (
                if x2 < (s 210 x5.toNatClampNeg) then
                  mo_wasOpen_6 s x1 x2 x3 0 (x5 + 1)
                else
                  gd (inb x5 8) (
                    if (s 214 x5.toNatClampNeg) = (-4) then
                      mo_wasOpen_6 s x1 x2 x3 1 (x5 + 1)
                    else
                      gd (inb x5 8) (
                        if (s 214 x5.toNatClampNeg) ≤ x2 then
                          mo_wasOpen_6 s x1 x2 x3 0 (x5 + 1)
                        else
                          mo_wasOpen_6 s x1 x2 x3 1 (x5 + 1)))))
        else
          mo_wasOpen_6 s x1 x2 x3 0 (x5 + 1))
    else
      mo_wasOpen_6 s x1 x2 x3 1 (x5 + 1) : mO) := (EV_un 2000 225 6 [some (pA 183), some (pI x1), some (pI x2), some (pI x3), some (pI x4), some (pI x5)] [] s).trans rfl
set_option maxRecDepth 100000 in
set_option maxHeartbeats 4000000 in
theorem mo_areJoined_eq (s : mSt) (x1 : Int32) (x2 : Int32) (x3 : Int32) (x4 : Int32) : mo_areJoined s x1 x2 x3 x4 = (
  mo_areJoined_3 s x1 x2 x3 x4 0 : mO) := (EV_un 2000 230 0 [some (pA 183), some (pI x1), some (pI x2), some (pI x3), some (pI x4), none, none, none, none, none] [] s).trans rfl
set_option maxRecDepth 100000 in
set_option maxHeartbeats 4000000 in
theorem mo_areJoined_3_eq (s : mSt) (x1 : Int32) (x2 : Int32) (x3 : Int32) (x4 : Int32) (x5 : Int32) : mo_areJoined_3 s x1 x2 x3 x4 x5 = (
  if (s 183 0) ≤ x5 then
    mo_areJoined_30 s x1 x2 x3 x4 0
  else
    gd (inb x5 8) (
      mo_areJoined_3 (wr s 207 x5.toNatClampNeg x5) x1 x2 x3 x4 (x5 + 1)) : mO) := (EV_un 2000 230 3 [some (pA 183), some (pI x1), some (pI x2), some (pI x3), some (pI x4), some (pI x5), none, none, none, none] [] s).trans rfl
set_option maxRecDepth 100000 in
set_option maxHeartbeats 4000000 in
theorem mo_areJoined_30_eq (s : mSt) (x1 : Int32) (x2 : Int32) (x3 : Int32) (x4 : Int32) (x5 : Int32) : mo_areJoined_30 s x1 x2 x3 x4 x5 = (
  if (20 : Int32) ≤ x5 then
    mo_areJoined_245 s x1 (-4) 1 0
  else
    if x5 = x3 then
      mo_areJoined_87 s x1 x2 x3 x4 x5 0
    else
      if x5 = x4 then
        mo_areJoined_87 s x1 x2 x3 x4 x5 0
      else
        if (12 : Int32) ≤ x5 then
          if ((x2 >>> ((x5 - 12) &&& 31)) &&& 1) = 1 then
            mo_areJoined_87 s x1 x2 x3 x4 x5 1
          else
            mo_areJoined_87 s x1 x2 x3 x4 x5 0
        else
          if (s 183 3) ≤ x5 then
            mo_areJoined_87 s x1 x2 x3 x4 x5 0
          else
            mo_areJoined_87 s x1 x2 x3 x4 x5 1 : mO) := (EV_un 2000 230 30 [some (pA 183), some (pI x1), some (pI x2), some (pI x3), some (pI x4), some (pI x5), none, none, none, none] [] s).trans rfl
set_option maxRecDepth 100000 in
set_option maxHeartbeats 4000000 in
theorem mo_areJoined_245_eq (s : mSt) (x1 : Int32) (x5 : Int32) (x6 : Int32) (x7 : Int32) : mo_areJoined_245 s x1 x5 x6 x7 = (
  if (s 183 0) ≤ x7 then
    gd (bz x6) (rI x6 s)
  else
    if ((x1 >>> (x7 &&& 31)) &&& 1) = 1 then
      if x5 = (-4) then
        gd (inb x7 8) (
          mo_areJoined_283 s x1 x6 x7 (s 207 x7.toNatClampNeg))
      else
        mo_areJoined_283 s x1 x6 x7 x5
    else
      mo_areJoined_245 s x1 x5 x6 (x7 + 1) : mO) := (EV_un 2000 230 245 [some (pA 183), some (pI x1), none, none, none, some (pI x5), some (pI x6), some (pI x7), none, none] [] s).trans rfl
set_option maxRecDepth 100000 in
set_option maxHeartbeats 4000000 in
theorem mo_areJoined_87_eq (s : mSt) (x1 : Int32) (x2 : Int32) (x3 : Int32) (x4 : Int32) (x5 : Int32) (t0 : Int32) : mo_areJoined_87 s x1 x2 x3 x4 x5 t0 = (
  if t0 = 0 then
    mo_areJoined_130 s x1 x2 x3 x4 x5 t0 0
  else
    if (12 : Int32) ≤ x5 then
      gd (inb (x5 - 12) 8) (
        gd (inb (s 231 ((x5 - 12)).toNatClampNeg) 8) (
          mo_areJoined_130 s x1 x2 x3 x4 x5 t0 (s 207 ((s 231 ((x5 - 12)).toNatClampNeg)).toNatClampNeg)))
    else
      gd (inb x5 12) (
        gd (inb (s 186 x5.toNatClampNeg) 8) (
          mo_areJoined_130 s x1 x2 x3 x4 x5 t0 (s 207 ((s 186 x5.toNatClampNeg)).toNatClampNeg))) : mO) := (EV_un 2000 230 87 [some (pA 183), some (pI x1), some (pI x2), some (pI x3), some (pI x4), some (pI x5), none, none, none, none] [(pI t0)] s).trans rfl
set_option maxRecDepth 100000 in
set_option maxHeartbeats 4000000 in
theorem mo_areJoined_283_eq (s : mSt) (x1 : Int32) (x6 : Int32) (x7 : Int32) (t0 : Int32) : mo_areJoined_283 s x1 x6 x7 t0 = (
  if x6 = 0 then
    mo_areJoined_245 s x1 t0 0 (x7 + 1)
  else
    gd (inb x7 8) (
      if (s 207 x7.toNatClampNeg) = t0 then
        mo_areJoined_245 s x1 t0 1 (x7 + 1)
      else
        mo_areJoined_245 s x1 t0 0 (x7 + 1)) : mO) := (EV_un 2000 230 283 [some (pA 183), some (pI x1), none, none, none, none, some (pI x6), some (pI x7), none, none] [(pI t0)] s).trans rfl
set_option maxRecDepth 100000 in
set_option maxHeartbeats 4000000 in
theorem mo_areJoined_130_eq (s : mSt) (x1 : Int32) (x2 : Int32) (x3 : Int32) (x4 : Int32) (x5 : Int32) (x6 : Int32) (t0 : Int32) : mo_areJoined_130 s x1 x2 x3 x4 x5 x6 t0 = (
  if x6 = 0 then
    mo_areJoined_178 s x1 x2 x3 x4 x5 x6 t0 0 0
  else
    if (12 : Int32) ≤ x5 then
      gd (inb (x5 - 12) 8) (
        gd (inb (s 232 ((x5 - 12)).toNatClampNeg) 8) (
          mo_areJoined_178 s x1 x2 x3 x4 x5 x6 t0 (s 207 ((s 232 ((x5 - 12)).toNatClampNeg)).toNatClampNeg) 0))
    else
      gd (inb x5 12) (
        gd (inb (s 187 x5.toNatClampNeg) 8) (
          mo_areJoined_178 s x1 x2 x3 x4 x5 x6 t0 (s 207 ((s 187 x5.toNatClampNeg)).toNatClampNeg) 0)) : mO) := (EV_un 2000 230 130 [some (pA 183), some (pI x1), some (pI x2), some (pI x3), some (pI x4), some (pI x5), some (pI x6), none, none, none] [(pI t0)] s).trans rfl
set_option maxRecDepth 100000 in
set_option maxHeartbeats 4000000 in
theorem mo_areJoined_178_eq (s : mSt) (x1 : Int32) (x2 : Int32) (x3 : Int32) (x4 : Int32) (x5 : Int32) (x6 : Int32) (x7 : Int32) (x8 : Int32) (x9 : Int32) : mo_areJoined_178 s x1 x2 x3 x4 x5 x6 x7 x8 x9 = (
  if (s 183 0) ≤ x9 then
    mo_areJoined_30 s x1 x2 x3 x4 (x5 + 1)
  else
    if x6 = 0 then
      mo_areJoined_30 s x1 x2 x3 x4 (x5 + 1)
    else
      gd (inb x9 8) (
        if (s 207 x9.toNatClampNeg) = x7 then
          gd (inb x9 8) (
            mo_areJoined_178 (wr s 207 x9.toNatClampNeg x8) x1 x2 x3 x4 x5 x6 x7 x8 (x9 + 1))
        else
          gd (inb x9 8) (
            gd (inb x9 8) (
              mo_areJoined_178 (wr s 207 x9.toNatClampNeg (s 207 x9.toNatClampNeg)) x1 x2 x3 x4 x5 x6 x7 x8 (x9 + 1)))) : mO) := (EV_un 2000 230 178 [some (pA 183), some (pI x1), some (pI x2), some (pI x3), some (pI x4), some (pI x5), some (pI x6), some (pI x7), some (pI x8), some (pI x9)] [] s).trans rfl
set_option maxRecDepth 100000 in
set_option maxHeartbeats 4000000 in
theorem mo_other_eq (s : mSt) (x1 : Int32) (x2 : Int32) : mo_other s x1 x2 = (
  gd (inb x1 12) (
    if (s 186 x1.toNatClampNeg) = x2 then
      gd (inb x1 12) (
        rI (s 187 x1.toNatClampNeg) s)
    else
      gd (inb x1 12) (
        if (s 187 x1.toNatClampNeg) = x2 then
          gd (inb x1 12) (
            rI (s 186 x1.toNatClampNeg) s)
        else
          rI (-4) s)) : mO) := (EV_un 2000 189 0 [some (pA 183), some (pI x1), some (pI x2)] [] s).trans rfl
set_option maxRecDepth 100000 in
set_option maxHeartbeats 4000000 in
theorem mo_is_eq (s : mSt) (x1 : Int32) (x2 : Int32) (x3 : Int32) (x4 : Int32) (x5 : Int32) : mo_is s x1 x2 x3 x4 x5 = (
  if (s 183 23) = 1 then
    if ((s 183 21) - (s 183 22)) = x1 then
      bI (mo_look s (s 183 22)) fun v1 s1 =>
        if v1 = x2 then
          bI (mo_look s1 ((s1 183 22) + 1)) fun v2 s2 =>
            if v2 = x3 then
              if x1 < 3 then
                mo_is_67 s2 x1 x5
              else
                bI (mo_look s2 ((s2 183 22) + 2)) fun v3 s3 =>
                  if v3 = x4 then
                    mo_is_67 s3 x1 x5
                  else
                    rI 0 s3
            else
              rI 0 s2
        else
          rI 0 s1
    else
      rI 0 s
  else
    rI 0 s : mO) := (EV_un 2000 173 0 [some (pA 183), some (pI x1), some (pI x2), some (pI x3), some (pI x4), some (pI x5)] [] s).trans rfl
set_option maxRecDepth 100000 in
set_option maxHeartbeats 4000000 in
theorem mo_is_67_eq (s : mSt) (x1 : Int32) (x5 : Int32) : mo_is_67 s x1 x5 = (
  if x1 < 4 then
    rI 1 s
  else
    bI (mo_look s ((s 183 22) + 3)) fun v1 s1 =>
      if v1 = x5 then
        rI 1 s1
      else
        rI 0 s1 : mO) := (EV_un 2000 173 67 [some (pA 183), some (pI x1), none, none, none, some (pI x5)] [] s).trans rfl
set_option maxRecDepth 100000 in
set_option maxHeartbeats 4000000 in
theorem mo_readName_eq (s : mSt) (x1 : Int32) : mo_readName s x1 = (
  if (s 183 25) = 0 then
    bI (mo_nameNow s) fun v2 s2 =>
      if v2 = x1 then
        mo_readName_21 s2 1
      else
        mo_readName_21 s2 0
  else
    bV (mo_next s) fun s1 =>
      rV s1 : mO) := (EV_un 2000 176 0 [some (pA 183), some (pI x1)] [] s).trans rfl
set_option maxRecDepth 100000 in
set_option maxHeartbeats 4000000 in
theorem mo_readName_21_eq (s : mSt) (t0 : Int32) : mo_readName_21 s t0 = (
  bV (mo_wants s t0 2) fun s1 =>
    bV (mo_next s1) fun s2 =>
      rV s2 : mO) := (EV_un 2000 176 21 [some (pA 183), none] [(pI t0), (pA 183)] s).trans rfl
set_option maxRecDepth 100000 in
set_option maxHeartbeats 4000000 in
theorem mo_weightOf_eq (s : mSt) (x1 : Int32) : mo_weightOf s x1 = (
  mo_weightOf_4 s x1 0 0 : mO) := (EV_un 2000 219 0 [some (pA 183), some (pI x1), none, none] [] s).trans rfl
set_option maxRecDepth 100000 in
set_option maxHeartbeats 4000000 in
theorem mo_weightOf_4_eq (s : mSt) (x1 : Int32) (x2 : Int32) (x3 : Int32) : mo_weightOf_4 s x1 x2 x3 = (
  if (s 183 56) ≤ x3 then
    rI x2 s
  else
    if ((x1 >>> (x3 &&& 31)) &&& 1) = 1 then
      gd (inb x3 8) (
        mo_weightOf_4 s x1 (x2 + (s 222 x3.toNatClampNeg)) (x3 + 1))
    else
      mo_weightOf_4 s x1 (x2 + 0) (x3 + 1) : mO) := (EV_un 2000 219 4 [some (pA 183), some (pI x1), some (pI x2), some (pI x3)] [] s).trans rfl
set_option maxRecDepth 100000 in
set_option maxHeartbeats 4000000 in
theorem mo_legOf_eq (s : mSt) (x1 : Int32) (x2 : Int32) : mo_legOf s x1 x2 = (
  gd (inb x1 8) (
    gd (inb (s 221 x1.toNatClampNeg) 8) (
      gd (inb (s 221 x1.toNatClampNeg) 8) (
        bI (mo_xAt s (s 209 ((s 221 x1.toNatClampNeg)).toNatClampNeg) (s 212 ((s 221 x1.toNatClampNeg)).toNatClampNeg)) fun v1 s1 =>
          gd (inb (s 221 x1.toNatClampNeg) 8) (
            gd (inb (s 221 x1.toNatClampNeg) 8) (
              bI (mo_yAt s1 (s1 209 ((s 221 x1.toNatClampNeg)).toNatClampNeg) (s1 212 ((s 221 x1.toNatClampNeg)).toNatClampNeg)) fun v2 s2 =>
                gd (inb x2 8) (
                  bI (mo_hoursTo s2 v1 v2 (s2 221 x2.toNatClampNeg)) fun v3 s3 =>
                    rI v3 s3)))))) : mO) := (EV_un 2000 221 0 [some (pA 183), some (pI x1), some (pI x2), none] [] s).trans rfl
