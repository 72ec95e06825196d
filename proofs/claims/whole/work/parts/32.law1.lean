-- the law's loop (by a program)
def fL_L18 (L : Nat) (xs : Nat → Int32) : Nat → Int32 → Mem → Option (Int32 × Mem)
  | 0, _, _ => none
  | k + 1, x3, s =>
    if ((nI L) - 6) < x3 then
      some (1, s)
    else
      if inb x3 L = true then
      if ((xs (ix x3)) &&& 63) = 0 then
        if inb (x3 + 1) L = true then
        if inb (x3 + 2) L = true then
        bnd (fX11_row (xs (ix (x3 + 1))) (xs (ix (x3 + 2))) s) (fun r6 s7 =>
        if inb (x3 + 1) L = true then
        if inb (x3 + 2) L = true then
        bnd (fX12_row (xs (ix (x3 + 1))) (xs (ix (x3 + 2))) s7) (fun r10 s11 =>
        if r6 = r10 then
          fL_L18 L xs k (x3 + 6) s11
        else
          some (0, s11))
        else none
        else none)
        else none
        else none
      else if ((xs (ix x3)) &&& 63) = 1 then
        if inb (x3 + 1) L = true then
        if inb (x3 + 2) L = true then
        if inb (x3 + 3) L = true then
        bnd (fX11_lay (xs (ix (x3 + 1))) (xs (ix (x3 + 2))) (xs (ix (x3 + 3))) s) (fun r17 s18 =>
        if inb (x3 + 1) L = true then
        if inb (x3 + 2) L = true then
        if inb (x3 + 3) L = true then
        bnd (fX12_lay (xs (ix (x3 + 1))) (xs (ix (x3 + 2))) (xs (ix (x3 + 3))) s18) (fun r22 s23 =>
        if r17 = r22 then
          fL_L18 L xs k (x3 + 6) s23
        else
          some (0, s23))
        else none
        else none
        else none)
        else none
        else none
        else none
      else if ((xs (ix x3)) &&& 63) = 2 then
        if inb (x3 + 1) L = true then
        if inb (x3 + 2) L = true then
        bnd (fX11_at (xs (ix (x3 + 1))) (xs (ix (x3 + 2))) s) (fun r28 s29 =>
        if inb (x3 + 1) L = true then
        if inb (x3 + 2) L = true then
        bnd (fX12_at (xs (ix (x3 + 1))) (xs (ix (x3 + 2))) s29) (fun r32 s33 =>
        if r28 = r32 then
          fL_L18 L xs k (x3 + 6) s33
        else
          some (0, s33))
        else none
        else none)
        else none
        else none
      else if ((xs (ix x3)) &&& 63) = 3 then
        if inb (x3 + 1) L = true then
        bnd (fX11_tear (xs (ix (x3 + 1))) s) (fun r37 s38 =>
        if inb (x3 + 1) L = true then
        bnd (fX12_tear (xs (ix (x3 + 1))) s38) (fun r40 s41 =>
        if r37 = r40 then
          fL_L18 L xs k (x3 + 6) s41
        else
          some (0, s41))
        else none)
        else none
      else if ((xs (ix x3)) &&& 63) = 4 then
        if inb (x3 + 1) L = true then
        if inb (x3 + 2) L = true then
        if inb (x3 + 3) L = true then
        if inb (x3 + 4) L = true then
        if inb (x3 + 5) L = true then
        bnd (fX11_copy (xs (ix (x3 + 1))) (xs (ix (x3 + 2))) (xs (ix (x3 + 3))) (xs (ix (x3 + 4))) (xs (ix (x3 + 5))) s) (fun r49 s50 =>
        if inb (x3 + 1) L = true then
        if inb (x3 + 2) L = true then
        if inb (x3 + 3) L = true then
        if inb (x3 + 4) L = true then
        if inb (x3 + 5) L = true then
        bnd (fX12_copy (xs (ix (x3 + 1))) (xs (ix (x3 + 2))) (xs (ix (x3 + 3))) (xs (ix (x3 + 4))) (xs (ix (x3 + 5))) s50) (fun r56 s57 =>
        if r49 = r56 then
          fL_L18 L xs k (x3 + 6) s57
        else
          some (0, s57))
        else none
        else none
        else none
        else none
        else none)
        else none
        else none
        else none
        else none
        else none
      else if ((xs (ix x3)) &&& 63) = 5 then
        if inb (x3 + 1) L = true then
        bnd (fX11_mean (xs (ix (x3 + 1))) s) (fun r61 s62 =>
        if inb (x3 + 1) L = true then
        bnd (fX12_mean (xs (ix (x3 + 1))) s62) (fun r64 s65 =>
        if r61 = r64 then
          fL_L18 L xs k (x3 + 6) s65
        else
          some (0, s65))
        else none)
        else none
      else if ((xs (ix x3)) &&& 63) = 6 then
        if inb (x3 + 1) L = true then
        if inb (x3 + 2) L = true then
        bnd (fX11_text (xs (ix (x3 + 1))) (xs (ix (x3 + 2))) s) (fun r70 s71 =>
        if inb (x3 + 1) L = true then
        if inb (x3 + 2) L = true then
        bnd (fX12_text (xs (ix (x3 + 1))) (xs (ix (x3 + 2))) s71) (fun r74 s75 =>
        if r70 = r74 then
          fL_L18 L xs k (x3 + 6) s75
        else
          some (0, s75))
        else none
        else none)
        else none
        else none
      else if ((xs (ix x3)) &&& 63) = 7 then
        if inb (x3 + 1) L = true then
        if inb (x3 + 2) L = true then
        if inb (x3 + 3) L = true then
        bnd (fX11_put (xs (ix (x3 + 1))) (xs (ix (x3 + 2))) (xs (ix (x3 + 3))) s) (fun r81 s82 =>
        if inb (x3 + 1) L = true then
        if inb (x3 + 2) L = true then
        if inb (x3 + 3) L = true then
        bnd (fX12_put (xs (ix (x3 + 1))) (xs (ix (x3 + 2))) (xs (ix (x3 + 3))) s82) (fun r86 s87 =>
        if r81 = r86 then
          fL_L18 L xs k (x3 + 6) s87
        else
          some (0, s87))
        else none
        else none
        else none)
        else none
        else none
        else none
      else if ((xs (ix x3)) &&& 63) = 8 then
        if inb (x3 + 1) L = true then
        if inb (x3 + 2) L = true then
        if (xs (ix (x3 + 2))) = 0 then
          bnd (fX11_fault (xs (ix (x3 + 1))) 0 s) (fun r93 s94 =>
          if inb (x3 + 1) L = true then
          if inb (x3 + 2) L = true then
          if (xs (ix (x3 + 2))) = 0 then
            bnd (fX12_fault (xs (ix (x3 + 1))) 0 s94) (fun r98 s99 =>
            if r93 = r98 then
              fL_L18 L xs k (x3 + 6) s99
            else
              some (0, s99))
          else
            bnd (fX12_fault (xs (ix (x3 + 1))) 1 s94) (fun r101 s102 =>
            if r93 = r101 then
              fL_L18 L xs k (x3 + 6) s102
            else
              some (0, s102))
          else none
          else none)
        else
          bnd (fX11_fault (xs (ix (x3 + 1))) 1 s) (fun r104 s105 =>
          if inb (x3 + 1) L = true then
          if inb (x3 + 2) L = true then
          if (xs (ix (x3 + 2))) = 0 then
            bnd (fX12_fault (xs (ix (x3 + 1))) 0 s105) (fun r109 s110 =>
            if r104 = r109 then
              fL_L18 L xs k (x3 + 6) s110
            else
              some (0, s110))
          else
            bnd (fX12_fault (xs (ix (x3 + 1))) 1 s105) (fun r112 s113 =>
            if r104 = r112 then
              fL_L18 L xs k (x3 + 6) s113
            else
              some (0, s113))
          else none
          else none)
        else none
        else none
      else if ((xs (ix x3)) &&& 63) = 9 then
        if inb (x3 + 1) L = true then
        bnd (fX11_barge (xs (ix (x3 + 1))) s) (fun r117 s118 =>
        if inb (x3 + 1) L = true then
        bnd (fX12_barge (xs (ix (x3 + 1))) s118) (fun r120 s121 =>
        if r117 = r120 then
          fL_L18 L xs k (x3 + 6) s121
        else
          some (0, s121))
        else none)
        else none
      else if ((xs (ix x3)) &&& 63) = 10 then
        if inb (x3 + 1) L = true then
        bnd (fX11_rite (xs (ix (x3 + 1))) s) (fun r125 s126 =>
        if inb (x3 + 1) L = true then
        bnd (fX12_rite (xs (ix (x3 + 1))) s126) (fun r128 s129 =>
        if r125 = r128 then
          fL_L18 L xs k (x3 + 6) s129
        else
          some (0, s129))
        else none)
        else none
      else if ((xs (ix x3)) &&& 63) = 11 then
        if inb (x3 + 1) L = true then
        if inb (x3 + 2) L = true then
        bnd (fX11_bench (xs (ix (x3 + 1))) (xs (ix (x3 + 2))) s) (fun r134 s135 =>
        if inb (x3 + 1) L = true then
        if inb (x3 + 2) L = true then
        bnd (fX12_bench (xs (ix (x3 + 1))) (xs (ix (x3 + 2))) s135) (fun r138 s139 =>
        if r134 = r138 then
          fL_L18 L xs k (x3 + 6) s139
        else
          some (0, s139))
        else none
        else none)
        else none
        else none
      else if ((xs (ix x3)) &&& 63) = 12 then
        if inb (x3 + 1) L = true then
        if inb (x3 + 2) L = true then
        bnd (fX11_guest (xs (ix (x3 + 1))) (xs (ix (x3 + 2))) s) (fun r144 s145 =>
        if inb (x3 + 1) L = true then
        if inb (x3 + 2) L = true then
        bnd (fX12_guest (xs (ix (x3 + 1))) (xs (ix (x3 + 2))) s145) (fun r148 s149 =>
        if r144 = r148 then
          fL_L18 L xs k (x3 + 6) s149
        else
          some (0, s149))
        else none
        else none)
        else none
        else none
      else if ((xs (ix x3)) &&& 63) = 13 then
        if inb (x3 + 1) L = true then
        if inb (x3 + 2) L = true then
        bnd (fX11_mark (xs (ix (x3 + 1))) (xs (ix (x3 + 2))) s) (fun r154 s155 =>
        if inb (x3 + 1) L = true then
        if inb (x3 + 2) L = true then
        bnd (fX12_mark (xs (ix (x3 + 1))) (xs (ix (x3 + 2))) s155) (fun r158 s159 =>
        if r154 = r158 then
          fL_L18 L xs k (x3 + 6) s159
        else
          some (0, s159))
        else none
        else none)
        else none
        else none
      else if ((xs (ix x3)) &&& 63) = 14 then
        if inb (x3 + 1) L = true then
        bnd (fX11_limit (xs (ix (x3 + 1))) s) (fun r163 s164 =>
        if inb (x3 + 1) L = true then
        bnd (fX12_limit (xs (ix (x3 + 1))) s164) (fun r166 s167 =>
        if r163 = r166 then
          fL_L18 L xs k (x3 + 6) s167
        else
          some (0, s167))
        else none)
        else none
      else if ((xs (ix x3)) &&& 63) = 15 then
        if inb (x3 + 1) L = true then
        bnd (fX11_rain (xs (ix (x3 + 1))) s) (fun r171 s172 =>
        if inb (x3 + 1) L = true then
        bnd (fX12_rain (xs (ix (x3 + 1))) s172) (fun r174 s175 =>
        if r171 = r174 then
          fL_L18 L xs k (x3 + 6) s175
        else
          some (0, s175))
        else none)
        else none
      else if ((xs (ix x3)) &&& 63) = 16 then
        if inb (x3 + 1) L = true then
        if inb (x3 + 2) L = true then
        bnd (fX11_quarrel (xs (ix (x3 + 1))) (xs (ix (x3 + 2))) s) (fun r180 s181 =>
        if inb (x3 + 1) L = true then
        if inb (x3 + 2) L = true then
        bnd (fX12_quarrel (xs (ix (x3 + 1))) (xs (ix (x3 + 2))) s181) (fun r184 s185 =>
        if r180 = r184 then
          fL_L18 L xs k (x3 + 6) s185
        else
          some (0, s185))
        else none
        else none)
        else none
        else none
      else if ((xs (ix x3)) &&& 63) = 17 then
        if inb (x3 + 1) L = true then
        bnd (fX11_peace (xs (ix (x3 + 1))) s) (fun r189 s190 =>
        if inb (x3 + 1) L = true then
        bnd (fX12_peace (xs (ix (x3 + 1))) s190) (fun r192 s193 =>
        if r189 = r192 then
          fL_L18 L xs k (x3 + 6) s193
        else
          some (0, s193))
        else none)
        else none
      else if ((xs (ix x3)) &&& 63) = 18 then
        if inb (x3 + 1) L = true then
        if inb (x3 + 2) L = true then
        bnd (fX11_seat (xs (ix (x3 + 1))) (xs (ix (x3 + 2))) s) (fun r198 s199 =>
        if inb (x3 + 1) L = true then
        if inb (x3 + 2) L = true then
        bnd (fX12_seat (xs (ix (x3 + 1))) (xs (ix (x3 + 2))) s199) (fun r202 s203 =>
        if r198 = r202 then
          fL_L18 L xs k (x3 + 6) s203
        else
          some (0, s203))
        else none
        else none)
        else none
        else none
      else if ((xs (ix x3)) &&& 63) = 19 then
        if inb (x3 + 1) L = true then
        bnd (fX11_rise (xs (ix (x3 + 1))) s) (fun r207 s208 =>
        if inb (x3 + 1) L = true then
        bnd (fX12_rise (xs (ix (x3 + 1))) s208) (fun r210 s211 =>
        if r207 = r210 then
          fL_L18 L xs k (x3 + 6) s211
        else
          some (0, s211))
        else none)
        else none
      else if ((xs (ix x3)) &&& 63) = 20 then
        if inb (x3 + 1) L = true then
        if inb (x3 + 2) L = true then
        bnd (fX11_change (xs (ix (x3 + 1))) (xs (ix (x3 + 2))) s) (fun r216 s217 =>
        if inb (x3 + 1) L = true then
        if inb (x3 + 2) L = true then
        bnd (fX12_change (xs (ix (x3 + 1))) (xs (ix (x3 + 2))) s217) (fun r220 s221 =>
        if r216 = r220 then
          fL_L18 L xs k (x3 + 6) s221
        else
          some (0, s221))
        else none
        else none)
        else none
        else none
      else if ((xs (ix x3)) &&& 63) = 21 then
        bnd (fX11_undo s) (fun r224 s225 =>
        bnd (fX12_undo s225) (fun r226 s227 =>
        if r224 = r226 then
          fL_L18 L xs k (x3 + 6) s227
        else
          some (0, s227)))
      else if ((xs (ix x3)) &&& 63) = 22 then
        if inb (x3 + 1) L = true then
        bnd (fX11_keep (xs (ix (x3 + 1))) s) (fun r231 s232 =>
        if inb (x3 + 1) L = true then
        bnd (fX12_keep (xs (ix (x3 + 1))) s232) (fun r234 s235 =>
        if r231 = r234 then
          fL_L18 L xs k (x3 + 6) s235
        else
          some (0, s235))
        else none)
        else none
      else if ((xs (ix x3)) &&& 63) = 23 then
        if inb (x3 + 1) L = true then
        bnd (fX11_on (xs (ix (x3 + 1))) s) (fun r239 s240 =>
        if inb (x3 + 1) L = true then
        bnd (fX12_on (xs (ix (x3 + 1))) s240) (fun r242 s243 =>
        if r239 = r242 then
          fL_L18 L xs k (x3 + 6) s243
        else
          some (0, s243))
        else none)
        else none
      else if ((xs (ix x3)) &&& 63) = 24 then
        if inb (x3 + 1) L = true then
        bnd (fX11_list (xs (ix (x3 + 1))) s) (fun r247 s248 =>
        if inb (x3 + 1) L = true then
        bnd (fX12_list (xs (ix (x3 + 1))) s248) (fun r250 s251 =>
        if r247 = r250 then
          fL_L18 L xs k (x3 + 6) s251
        else
          some (0, s251))
        else none)
        else none
      else if ((xs (ix x3)) &&& 63) = 25 then
        bnd (fX11_when s) (fun r254 s255 =>
        bnd (fX12_when s255) (fun r256 s257 =>
        if r254 = r256 then
          fL_L18 L xs k (x3 + 6) s257
        else
          some (0, s257)))
      else if ((xs (ix x3)) &&& 63) = 26 then
        bnd (fX11_minutes s) (fun r260 s261 =>
        bnd (fX12_minutes s261) (fun r262 s263 =>
        if r260 = r262 then
          fL_L18 L xs k (x3 + 6) s263
        else
          some (0, s263)))
      else if ((xs (ix x3)) &&& 63) = 27 then
        bnd (fX11_worst s) (fun r266 s267 =>
        bnd (fX12_worst s267) (fun r268 s269 =>
        if r266 = r268 then
          fL_L18 L xs k (x3 + 6) s269
        else
          some (0, s269)))
      else if ((xs (ix x3)) &&& 63) = 28 then
        bnd (fX11_need s) (fun r272 s273 =>
        bnd (fX12_need s273) (fun r274 s275 =>
        if r272 = r274 then
          fL_L18 L xs k (x3 + 6) s275
        else
          some (0, s275)))
      else if ((xs (ix x3)) &&& 63) = 29 then
        if inb (x3 + 1) L = true then
        bnd (fX11_best (xs (ix (x3 + 1))) s) (fun r279 s280 =>
        if inb (x3 + 1) L = true then
        bnd (fX12_best (xs (ix (x3 + 1))) s280) (fun r282 s283 =>
        if r279 = r282 then
          fL_L18 L xs k (x3 + 6) s283
        else
          some (0, s283))
        else none)
        else none
      else if ((xs (ix x3)) &&& 63) = 30 then
        bnd (fX11_ways s) (fun r286 s287 =>
        bnd (fX12_ways s287) (fun r288 s289 =>
        if r286 = r288 then
          fL_L18 L xs k (x3 + 6) s289
        else
          some (0, s289)))
      else if ((xs (ix x3)) &&& 63) = 31 then
        bnd (fX11_sure s) (fun r292 s293 =>
        bnd (fX12_sure s293) (fun r294 s295 =>
        if r292 = r294 then
          fL_L18 L xs k (x3 + 6) s295
        else
          some (0, s295)))
      else if ((xs (ix x3)) &&& 63) = 32 then
        if inb (x3 + 1) L = true then
        bnd (fX11_where (xs (ix (x3 + 1))) s) (fun r299 s300 =>
        if inb (x3 + 1) L = true then
        bnd (fX12_where (xs (ix (x3 + 1))) s300) (fun r302 s303 =>
        if r299 = r302 then
          fL_L18 L xs k (x3 + 6) s303
        else
          some (0, s303))
        else none)
        else none
      else if ((xs (ix x3)) &&& 63) = 33 then
        bnd (fX11_aisle s) (fun r306 s307 =>
        bnd (fX12_aisle s307) (fun r308 s309 =>
        if r306 = r308 then
          fL_L18 L xs k (x3 + 6) s309
        else
          some (0, s309)))
      else if ((xs (ix x3)) &&& 63) = 34 then
        if inb (x3 + 1) L = true then
        bnd (fX11_leave (xs (ix (x3 + 1))) s) (fun r313 s314 =>
        if inb (x3 + 1) L = true then
        bnd (fX12_leave (xs (ix (x3 + 1))) s314) (fun r316 s317 =>
        if r313 = r316 then
          fL_L18 L xs k (x3 + 6) s317
        else
          some (0, s317))
        else none)
        else none
      else if ((xs (ix x3)) &&& 63) = 35 then
        bnd (fX11_leavers s) (fun r320 s321 =>
        bnd (fX12_leavers s321) (fun r322 s323 =>
        if r320 = r322 then
          fL_L18 L xs k (x3 + 6) s323
        else
          some (0, s323)))
      else if ((xs (ix x3)) &&& 63) = 36 then
        if inb (x3 + 1) L = true then
        if inb (x3 + 2) L = true then
        if inb (x3 + 3) L = true then
        bnd (fX11_invite (xs (ix (x3 + 1))) (xs (ix (x3 + 2))) (xs (ix (x3 + 3))) s) (fun r329 s330 =>
        if inb (x3 + 1) L = true then
        if inb (x3 + 2) L = true then
        if inb (x3 + 3) L = true then
        bnd (fX12_invite (xs (ix (x3 + 1))) (xs (ix (x3 + 2))) (xs (ix (x3 + 3))) s330) (fun r334 s335 =>
        if r329 = r334 then
          fL_L18 L xs k (x3 + 6) s335
        else
          some (0, s335))
        else none
        else none
        else none)
        else none
        else none
        else none
      else if ((xs (ix x3)) &&& 63) = 37 then
        if inb (x3 + 1) L = true then
        if inb (x3 + 2) L = true then
        bnd (fX11_far (xs (ix (x3 + 1))) (xs (ix (x3 + 2))) s) (fun r340 s341 =>
        if inb (x3 + 1) L = true then
        if inb (x3 + 2) L = true then
        bnd (fX12_far (xs (ix (x3 + 1))) (xs (ix (x3 + 2))) s341) (fun r344 s345 =>
        if r340 = r344 then
          fL_L18 L xs k (x3 + 6) s345
        else
          some (0, s345))
        else none
        else none)
        else none
        else none
      else if ((xs (ix x3)) &&& 63) = 38 then
        bnd (fX11_crossed s) (fun r348 s349 =>
        bnd (fX12_crossed s349) (fun r350 s351 =>
        if r348 = r350 then
          fL_L18 L xs k (x3 + 6) s351
        else
          some (0, s351)))
      else if ((xs (ix x3)) &&& 63) = 39 then
        bnd (fX11_divorce s) (fun r354 s355 =>
        bnd (fX12_divorce s355) (fun r356 s357 =>
        if r354 = r356 then
          fL_L18 L xs k (x3 + 6) s357
        else
          some (0, s357)))
      else if ((xs (ix x3)) &&& 63) = 40 then
        if inb (x3 + 1) L = true then
        bnd (fX11_kin (xs (ix (x3 + 1))) s) (fun r361 s362 =>
        if inb (x3 + 1) L = true then
        bnd (fX12_kin (xs (ix (x3 + 1))) s362) (fun r364 s365 =>
        if r361 = r364 then
          fL_L18 L xs k (x3 + 6) s365
        else
          some (0, s365))
        else none)
        else none
      else if ((xs (ix x3)) &&& 63) = 41 then
        if inb (x3 + 1) L = true then
        if inb (x3 + 2) L = true then
        bnd (fX11_odds (xs (ix (x3 + 1))) (xs (ix (x3 + 2))) s) (fun r370 s371 =>
        if inb (x3 + 1) L = true then
        if inb (x3 + 2) L = true then
        bnd (fX12_odds (xs (ix (x3 + 1))) (xs (ix (x3 + 2))) s371) (fun r374 s375 =>
        if r370 = r374 then
          fL_L18 L xs k (x3 + 6) s375
        else
          some (0, s375))
        else none
        else none)
        else none
        else none
      else if ((xs (ix x3)) &&& 63) = 42 then
        if inb (x3 + 1) L = true then
        bnd (fX11_storm (xs (ix (x3 + 1))) s) (fun r379 s380 =>
        if inb (x3 + 1) L = true then
        bnd (fX12_storm (xs (ix (x3 + 1))) s380) (fun r382 s383 =>
        if r379 = r382 then
          fL_L18 L xs k (x3 + 6) s383
        else
          some (0, s383))
        else none)
        else none
      else if ((xs (ix x3)) &&& 63) = 43 then
        bnd (fX11_asked s) (fun r386 s387 =>
        bnd (fX12_asked s387) (fun r388 s389 =>
        if r386 = r388 then
          fL_L18 L xs k (x3 + 6) s389
        else
          some (0, s389)))
      else if ((xs (ix x3)) &&& 63) = 44 then
        bnd (fX11_upper s) (fun r392 s393 =>
        bnd (fX12_upper s393) (fun r394 s395 =>
        if (lg_cmp r392 r394) = 0 then
          fL_L18 L xs k (x3 + 6) s395
        else
          some (0, s395)))
      else if ((xs (ix x3)) &&& 63) = 45 then
        bnd (fX11_lower s) (fun r398 s399 =>
        bnd (fX12_lower s399) (fun r400 s401 =>
        if (lg_cmp r398 r400) = 0 then
          fL_L18 L xs k (x3 + 6) s401
        else
          some (0, s401)))
      else if ((xs (ix x3)) &&& 63) = 46 then
        if inb (x3 + 1) L = true then
        bnd (fX11_count (xs (ix (x3 + 1))) s) (fun r405 s406 =>
        if inb (x3 + 1) L = true then
        bnd (fX12_count (xs (ix (x3 + 1))) s406) (fun r408 s409 =>
        if r405 = r408 then
          fL_L18 L xs k (x3 + 6) s409
        else
          some (0, s409))
        else none)
        else none
      else if ((xs (ix x3)) &&& 63) = 47 then
        bnd (fX11_finding s) (fun r412 s413 =>
        bnd (fX12_finding s413) (fun r414 s415 =>
        if r412 = r414 then
          fL_L18 L xs k (x3 + 6) s415
        else
          some (0, s415)))
      else if ((xs (ix x3)) &&& 63) = 48 then
        if inb (x3 + 1) L = true then
        bnd (fX11_findings (xs (ix (x3 + 1))) s) (fun r419 s420 =>
        if inb (x3 + 1) L = true then
        bnd (fX12_findings (xs (ix (x3 + 1))) s420) (fun r422 s423 =>
        if r419 = r422 then
          fL_L18 L xs k (x3 + 6) s423
        else
          some (0, s423))
        else none)
        else none
      else if ((xs (ix x3)) &&& 63) = 49 then
        bnd (fX11_digest s) (fun r426 s427 =>
        bnd (fX12_digest s427) (fun r428 s429 =>
        if (lg_cmp r426 r428) = 0 then
          fL_L18 L xs k (x3 + 6) s429
        else
          some (0, s429)))
      else 
        fL_L18 L xs k (x3 + 6) s
      else none
theorem tL_L18 (Θ : Th) (l : Launch) (b L : Nat) (xs : Nat → Int32) : ∀ (k : Nat) (x3 : Int32) (s : Mem), Jl Θ l b L xs NNc RT 98 3224 18 [some (vR 950), some (vR 1), some (vR 68), some (vI x3)] [] s (fL_L18 L xs k x3 s) := by
  intro k
  induction k with
  | zero => intro x3 s; exact l_none
  | succ k ih =>
    intro x3 s
    rw [fL_L18]
    refine l_iload_n 19 dL_law_18 rfl rfl ?_
    refine l_aload_n 20 dL_law_19 rfl rfl ?_
    refine l_alenX 21 dL_law_20 rfl ?_
    refine l_bipush (v := 6) 23 dL_law_21 rfl (by decide) ?_
    refine l_isub 24 dL_law_23 rfl ?_
    refine l_icmp_gt 1483 27 dL_law_24 (by decide) rfl (fun c1 => ?_) (fun c1 => ?_)
    · refine l_iconst (v := 1) 1484 dL_law_1483 rfl (by decide) ?_
      exact l_ret1 dL_law_1484 (by decide) (by decide)
    · refine l_aload_n 28 dL_law_27 rfl rfl ?_
      refine l_iload_n 29 dL_law_28 rfl rfl ?_
      refine l_ialoadX 30 dL_law_29 rfl (fun b2 => ?_)
      refine l_bipush (v := 63) 32 dL_law_30 rfl (by decide) ?_
      refine l_iand 33 dL_law_32 rfl ?_
      refine l_ite (fun c3 => ?_) (fun c3 => ?_)
      · refine l_tabIn (v := 0) 248 dL_law_33 c3 (by decide) (by decide) rfl (by decide) ?_
        refine l_aload_n 249 dL_law_248 rfl rfl ?_
        refine l_aload_n 250 dL_law_249 rfl rfl ?_
        refine l_iload_n 251 dL_law_250 rfl rfl ?_
        refine l_iconst (v := 1) 252 dL_law_251 rfl (by decide) ?_
        refine l_iadd 253 dL_law_252 rfl ?_
        refine l_ialoadX 254 dL_law_253 rfl (fun b4 => ?_)
        refine l_aload_n 255 dL_law_254 rfl rfl ?_
        refine l_iload_n 256 dL_law_255 rfl rfl ?_
        refine l_iconst (v := 2) 257 dL_law_256 rfl (by decide) ?_
        refine l_iadd 258 dL_law_257 rfl ?_
        refine l_ialoadX 259 dL_law_258 rfl (fun b5 => ?_)
        refine l_callVi (M2 := mX11_row) [vI (xs (ix (x3 + 1))), vI (xs (ix (x3 + 2)))] 262 oa1 cc11 mkX11_row w_436 dL_law_259 rfl rfl (tX11_row Θ l _ _  _) (Nat.le_of_ble_eq_true rfl) (Nat.le_of_ble_eq_true rfl) (Nat.le_of_ble_eq_true rfl) (fun r6 s7 => ?_)
        refine l_aload_n 263 dL_law_262 rfl rfl ?_
        refine l_aload_n 264 dL_law_263 rfl rfl ?_
        refine l_iload_n 265 dL_law_264 rfl rfl ?_
        refine l_iconst (v := 1) 266 dL_law_265 rfl (by decide) ?_
        refine l_iadd 267 dL_law_266 rfl ?_
        refine l_ialoadX 268 dL_law_267 rfl (fun b8 => ?_)
        refine l_aload_n 269 dL_law_268 rfl rfl ?_
        refine l_iload_n 270 dL_law_269 rfl rfl ?_
        refine l_iconst (v := 2) 271 dL_law_270 rfl (by decide) ?_
        refine l_iadd 272 dL_law_271 rfl ?_
        refine l_ialoadX 273 dL_law_272 rfl (fun b9 => ?_)
        refine l_callVi (M2 := mX12_row) [vI (xs (ix (x3 + 1))), vI (xs (ix (x3 + 2)))] 276 oa68 cc12 mkX12_row w_1395 dL_law_273 rfl rfl (tX12_row Θ l _ _  _) (Nat.le_of_ble_eq_true rfl) (Nat.le_of_ble_eq_true rfl) (Nat.le_of_ble_eq_true rfl) (fun r10 s11 => ?_)
        refine l_icmp_eq 1477 279 dL_law_276 (by decide) rfl (fun c12 => ?_) (fun c12 => ?_)
        · refine l_iinc (v := x3 + 6) (ls' := [some (vR 950), some (vR 1), some (vR 68), some (vI (x3 + 6))]) 1480 dL_law_1477 rfl rfl rfl (by decide) rfl rfl ?_
          refine l_goto 18 dL_law_1480 (by decide) ?_
          refine l_sub (ls' := [some (vR 950), some (vR 1), some (vR 68), some (vI (x3 + 6))]) (And.intro rfl (And.intro rfl (And.intro rfl (And.intro rfl trivial)))) ?_
          exact ih (x3 + 6) s11
        · refine l_iconst (v := 0) 280 dL_law_279 rfl (by decide) ?_
          exact l_ret0
      refine l_ite (fun c13 => ?_) (fun c13 => ?_)
      · refine l_tabIn (v := 1) 281 dL_law_33 c13 (by decide) (by decide) rfl (by decide) ?_
        refine l_aload_n 282 dL_law_281 rfl rfl ?_
        refine l_aload_n 283 dL_law_282 rfl rfl ?_
        refine l_iload_n 284 dL_law_283 rfl rfl ?_
        refine l_iconst (v := 1) 285 dL_law_284 rfl (by decide) ?_
        refine l_iadd 286 dL_law_285 rfl ?_
        refine l_ialoadX 287 dL_law_286 rfl (fun b14 => ?_)
        refine l_aload_n 288 dL_law_287 rfl rfl ?_
        refine l_iload_n 289 dL_law_288 rfl rfl ?_
        refine l_iconst (v := 2) 290 dL_law_289 rfl (by decide) ?_
        refine l_iadd 291 dL_law_290 rfl ?_
        refine l_ialoadX 292 dL_law_291 rfl (fun b15 => ?_)
        refine l_aload_n 293 dL_law_292 rfl rfl ?_
        refine l_iload_n 294 dL_law_293 rfl rfl ?_
        refine l_iconst (v := 3) 295 dL_law_294 rfl (by decide) ?_
        refine l_iadd 296 dL_law_295 rfl ?_
        refine l_ialoadX 297 dL_law_296 rfl (fun b16 => ?_)
        refine l_callVi (M2 := mX11_lay) [vI (xs (ix (x3 + 1))), vI (xs (ix (x3 + 2))), vI (xs (ix (x3 + 3)))] 300 oa1 cc11 mkX11_lay w_458 dL_law_297 rfl rfl (tX11_lay Θ l _ _ _  _) (Nat.le_of_ble_eq_true rfl) (Nat.le_of_ble_eq_true rfl) (Nat.le_of_ble_eq_true rfl) (fun r17 s18 => ?_)
        refine l_aload_n 301 dL_law_300 rfl rfl ?_
        refine l_aload_n 302 dL_law_301 rfl rfl ?_
        refine l_iload_n 303 dL_law_302 rfl rfl ?_
        refine l_iconst (v := 1) 304 dL_law_303 rfl (by decide) ?_
        refine l_iadd 305 dL_law_304 rfl ?_
        refine l_ialoadX 306 dL_law_305 rfl (fun b19 => ?_)
        refine l_aload_n 307 dL_law_306 rfl rfl ?_
        refine l_iload_n 308 dL_law_307 rfl rfl ?_
        refine l_iconst (v := 2) 309 dL_law_308 rfl (by decide) ?_
        refine l_iadd 310 dL_law_309 rfl ?_
        refine l_ialoadX 311 dL_law_310 rfl (fun b20 => ?_)
        refine l_aload_n 312 dL_law_311 rfl rfl ?_
        refine l_iload_n 313 dL_law_312 rfl rfl ?_
        refine l_iconst (v := 3) 314 dL_law_313 rfl (by decide) ?_
        refine l_iadd 315 dL_law_314 rfl ?_
        refine l_ialoadX 316 dL_law_315 rfl (fun b21 => ?_)
        refine l_callVi (M2 := mX12_lay) [vI (xs (ix (x3 + 1))), vI (xs (ix (x3 + 2))), vI (xs (ix (x3 + 3)))] 319 oa68 cc12 mkX12_lay w_1406 dL_law_316 rfl rfl (tX12_lay Θ l _ _ _  _) (Nat.le_of_ble_eq_true rfl) (Nat.le_of_ble_eq_true rfl) (Nat.le_of_ble_eq_true rfl) (fun r22 s23 => ?_)
        refine l_icmp_eq 1477 322 dL_law_319 (by decide) rfl (fun c24 => ?_) (fun c24 => ?_)
        · refine l_iinc (v := x3 + 6) (ls' := [some (vR 950), some (vR 1), some (vR 68), some (vI (x3 + 6))]) 1480 dL_law_1477 rfl rfl rfl (by decide) rfl rfl ?_
          refine l_goto 18 dL_law_1480 (by decide) ?_
          refine l_sub (ls' := [some (vR 950), some (vR 1), some (vR 68), some (vI (x3 + 6))]) (And.intro rfl (And.intro rfl (And.intro rfl (And.intro rfl trivial)))) ?_
          exact ih (x3 + 6) s23
        · refine l_iconst (v := 0) 323 dL_law_322 rfl (by decide) ?_
          exact l_ret0
      refine l_ite (fun c25 => ?_) (fun c25 => ?_)
      · refine l_tabIn (v := 2) 324 dL_law_33 c25 (by decide) (by decide) rfl (by decide) ?_
        refine l_aload_n 325 dL_law_324 rfl rfl ?_
        refine l_aload_n 326 dL_law_325 rfl rfl ?_
        refine l_iload_n 327 dL_law_326 rfl rfl ?_
        refine l_iconst (v := 1) 328 dL_law_327 rfl (by decide) ?_
        refine l_iadd 329 dL_law_328 rfl ?_
        refine l_ialoadX 330 dL_law_329 rfl (fun b26 => ?_)
        refine l_aload_n 331 dL_law_330 rfl rfl ?_
        refine l_iload_n 332 dL_law_331 rfl rfl ?_
        refine l_iconst (v := 2) 333 dL_law_332 rfl (by decide) ?_
        refine l_iadd 334 dL_law_333 rfl ?_
        refine l_ialoadX 335 dL_law_334 rfl (fun b27 => ?_)
        refine l_callVi (M2 := mX11_at) [vI (xs (ix (x3 + 1))), vI (xs (ix (x3 + 2)))] 338 oa1 cc11 mkX11_at w_487 dL_law_335 rfl rfl (tX11_at Θ l _ _  _) (Nat.le_of_ble_eq_true rfl) (Nat.le_of_ble_eq_true rfl) (Nat.le_of_ble_eq_true rfl) (fun r28 s29 => ?_)
        refine l_aload_n 339 dL_law_338 rfl rfl ?_
        refine l_aload_n 340 dL_law_339 rfl rfl ?_
        refine l_iload_n 341 dL_law_340 rfl rfl ?_
        refine l_iconst (v := 1) 342 dL_law_341 rfl (by decide) ?_
        refine l_iadd 343 dL_law_342 rfl ?_
        refine l_ialoadX 344 dL_law_343 rfl (fun b30 => ?_)
        refine l_aload_n 345 dL_law_344 rfl rfl ?_
        refine l_iload_n 346 dL_law_345 rfl rfl ?_
        refine l_iconst (v := 2) 347 dL_law_346 rfl (by decide) ?_
        refine l_iadd 348 dL_law_347 rfl ?_
        refine l_ialoadX 349 dL_law_348 rfl (fun b31 => ?_)
        refine l_callVi (M2 := mX12_at) [vI (xs (ix (x3 + 1))), vI (xs (ix (x3 + 2)))] 352 oa68 cc12 mkX12_at w_1418 dL_law_349 rfl rfl (tX12_at Θ l _ _  _) (Nat.le_of_ble_eq_true rfl) (Nat.le_of_ble_eq_true rfl) (Nat.le_of_ble_eq_true rfl) (fun r32 s33 => ?_)
        refine l_icmp_eq 1477 355 dL_law_352 (by decide) rfl (fun c34 => ?_) (fun c34 => ?_)
        · refine l_iinc (v := x3 + 6) (ls' := [some (vR 950), some (vR 1), some (vR 68), some (vI (x3 + 6))]) 1480 dL_law_1477 rfl rfl rfl (by decide) rfl rfl ?_
          refine l_goto 18 dL_law_1480 (by decide) ?_
          refine l_sub (ls' := [some (vR 950), some (vR 1), some (vR 68), some (vI (x3 + 6))]) (And.intro rfl (And.intro rfl (And.intro rfl (And.intro rfl trivial)))) ?_
          exact ih (x3 + 6) s33
        · refine l_iconst (v := 0) 356 dL_law_355 rfl (by decide) ?_
          exact l_ret0
      refine l_ite (fun c35 => ?_) (fun c35 => ?_)
      · refine l_tabIn (v := 3) 357 dL_law_33 c35 (by decide) (by decide) rfl (by decide) ?_
        refine l_aload_n 358 dL_law_357 rfl rfl ?_
        refine l_aload_n 359 dL_law_358 rfl rfl ?_
        refine l_iload_n 360 dL_law_359 rfl rfl ?_
        refine l_iconst (v := 1) 361 dL_law_360 rfl (by decide) ?_
        refine l_iadd 362 dL_law_361 rfl ?_
        refine l_ialoadX 363 dL_law_362 rfl (fun b36 => ?_)
        refine l_callVi (M2 := mX11_tear) [vI (xs (ix (x3 + 1)))] 366 oa1 cc11 mkX11_tear w_491 dL_law_363 rfl rfl (tX11_tear Θ l _  _) (Nat.le_of_ble_eq_true rfl) (Nat.le_of_ble_eq_true rfl) (Nat.le_of_ble_eq_true rfl) (fun r37 s38 => ?_)
        refine l_aload_n 367 dL_law_366 rfl rfl ?_
        refine l_aload_n 368 dL_law_367 rfl rfl ?_
        refine l_iload_n 369 dL_law_368 rfl rfl ?_
        refine l_iconst (v := 1) 370 dL_law_369 rfl (by decide) ?_
        refine l_iadd 371 dL_law_370 rfl ?_
        refine l_ialoadX 372 dL_law_371 rfl (fun b39 => ?_)
        refine l_callVi (M2 := mX12_tear) [vI (xs (ix (x3 + 1)))] 375 oa68 cc12 mkX12_tear w_1422 dL_law_372 rfl rfl (tX12_tear Θ l _  _) (Nat.le_of_ble_eq_true rfl) (Nat.le_of_ble_eq_true rfl) (Nat.le_of_ble_eq_true rfl) (fun r40 s41 => ?_)
        refine l_icmp_eq 1477 378 dL_law_375 (by decide) rfl (fun c42 => ?_) (fun c42 => ?_)
        · refine l_iinc (v := x3 + 6) (ls' := [some (vR 950), some (vR 1), some (vR 68), some (vI (x3 + 6))]) 1480 dL_law_1477 rfl rfl rfl (by decide) rfl rfl ?_
          refine l_goto 18 dL_law_1480 (by decide) ?_
          refine l_sub (ls' := [some (vR 950), some (vR 1), some (vR 68), some (vI (x3 + 6))]) (And.intro rfl (And.intro rfl (And.intro rfl (And.intro rfl trivial)))) ?_
          exact ih (x3 + 6) s41
        · refine l_iconst (v := 0) 379 dL_law_378 rfl (by decide) ?_
          exact l_ret0
      refine l_ite (fun c43 => ?_) (fun c43 => ?_)
      · refine l_tabIn (v := 4) 380 dL_law_33 c43 (by decide) (by decide) rfl (by decide) ?_
        refine l_aload_n 381 dL_law_380 rfl rfl ?_
        refine l_aload_n 382 dL_law_381 rfl rfl ?_
        refine l_iload_n 383 dL_law_382 rfl rfl ?_
        refine l_iconst (v := 1) 384 dL_law_383 rfl (by decide) ?_
        refine l_iadd 385 dL_law_384 rfl ?_
        refine l_ialoadX 386 dL_law_385 rfl (fun b44 => ?_)
        refine l_aload_n 387 dL_law_386 rfl rfl ?_
        refine l_iload_n 388 dL_law_387 rfl rfl ?_
        refine l_iconst (v := 2) 389 dL_law_388 rfl (by decide) ?_
        refine l_iadd 390 dL_law_389 rfl ?_
        refine l_ialoadX 391 dL_law_390 rfl (fun b45 => ?_)
        refine l_aload_n 392 dL_law_391 rfl rfl ?_
        refine l_iload_n 393 dL_law_392 rfl rfl ?_
        refine l_iconst (v := 3) 394 dL_law_393 rfl (by decide) ?_
        refine l_iadd 395 dL_law_394 rfl ?_
        refine l_ialoadX 396 dL_law_395 rfl (fun b46 => ?_)
        refine l_aload_n 397 dL_law_396 rfl rfl ?_
        refine l_iload_n 398 dL_law_397 rfl rfl ?_
        refine l_iconst (v := 4) 399 dL_law_398 rfl (by decide) ?_
        refine l_iadd 400 dL_law_399 rfl ?_
        refine l_ialoadX 401 dL_law_400 rfl (fun b47 => ?_)
        refine l_aload_n 402 dL_law_401 rfl rfl ?_
        refine l_iload_n 403 dL_law_402 rfl rfl ?_
        refine l_iconst (v := 5) 404 dL_law_403 rfl (by decide) ?_
        refine l_iadd 405 dL_law_404 rfl ?_
        refine l_ialoadX 406 dL_law_405 rfl (fun b48 => ?_)
        refine l_callVi (M2 := mX11_copy) [vI (xs (ix (x3 + 1))), vI (xs (ix (x3 + 2))), vI (xs (ix (x3 + 3))), vI (xs (ix (x3 + 4))), vI (xs (ix (x3 + 5)))] 409 oa1 cc11 mkX11_copy w_499 dL_law_406 rfl rfl (tX11_copy Θ l _ _ _ _ _  _) (Nat.le_of_ble_eq_true rfl) (Nat.le_of_ble_eq_true rfl) (Nat.le_of_ble_eq_true rfl) (fun r49 s50 => ?_)
        refine l_aload_n 410 dL_law_409 rfl rfl ?_
        refine l_aload_n 411 dL_law_410 rfl rfl ?_
        refine l_iload_n 412 dL_law_411 rfl rfl ?_
        refine l_iconst (v := 1) 413 dL_law_412 rfl (by decide) ?_
        refine l_iadd 414 dL_law_413 rfl ?_
        refine l_ialoadX 415 dL_law_414 rfl (fun b51 => ?_)
        refine l_aload_n 416 dL_law_415 rfl rfl ?_
        refine l_iload_n 417 dL_law_416 rfl rfl ?_
        refine l_iconst (v := 2) 418 dL_law_417 rfl (by decide) ?_
        refine l_iadd 419 dL_law_418 rfl ?_
        refine l_ialoadX 420 dL_law_419 rfl (fun b52 => ?_)
        refine l_aload_n 421 dL_law_420 rfl rfl ?_
        refine l_iload_n 422 dL_law_421 rfl rfl ?_
        refine l_iconst (v := 3) 423 dL_law_422 rfl (by decide) ?_
        refine l_iadd 424 dL_law_423 rfl ?_
        refine l_ialoadX 425 dL_law_424 rfl (fun b53 => ?_)
        refine l_aload_n 426 dL_law_425 rfl rfl ?_
        refine l_iload_n 427 dL_law_426 rfl rfl ?_
        refine l_iconst (v := 4) 428 dL_law_427 rfl (by decide) ?_
        refine l_iadd 429 dL_law_428 rfl ?_
        refine l_ialoadX 430 dL_law_429 rfl (fun b54 => ?_)
        refine l_aload_n 431 dL_law_430 rfl rfl ?_
        refine l_iload_n 432 dL_law_431 rfl rfl ?_
        refine l_iconst (v := 5) 433 dL_law_432 rfl (by decide) ?_
        refine l_iadd 434 dL_law_433 rfl ?_
        refine l_ialoadX 435 dL_law_434 rfl (fun b55 => ?_)
        refine l_callVi (M2 := mX12_copy) [vI (xs (ix (x3 + 1))), vI (xs (ix (x3 + 2))), vI (xs (ix (x3 + 3))), vI (xs (ix (x3 + 4))), vI (xs (ix (x3 + 5)))] 438 oa68 cc12 mkX12_copy w_1426 dL_law_435 rfl rfl (tX12_copy Θ l _ _ _ _ _  _) (Nat.le_of_ble_eq_true rfl) (Nat.le_of_ble_eq_true rfl) (Nat.le_of_ble_eq_true rfl) (fun r56 s57 => ?_)
        refine l_icmp_eq 1477 441 dL_law_438 (by decide) rfl (fun c58 => ?_) (fun c58 => ?_)
        · refine l_iinc (v := x3 + 6) (ls' := [some (vR 950), some (vR 1), some (vR 68), some (vI (x3 + 6))]) 1480 dL_law_1477 rfl rfl rfl (by decide) rfl rfl ?_
          refine l_goto 18 dL_law_1480 (by decide) ?_
          refine l_sub (ls' := [some (vR 950), some (vR 1), some (vR 68), some (vI (x3 + 6))]) (And.intro rfl (And.intro rfl (And.intro rfl (And.intro rfl trivial)))) ?_
          exact ih (x3 + 6) s57
        · refine l_iconst (v := 0) 442 dL_law_441 rfl (by decide) ?_
          exact l_ret0
      refine l_ite (fun c59 => ?_) (fun c59 => ?_)
      · refine l_tabIn (v := 5) 443 dL_law_33 c59 (by decide) (by decide) rfl (by decide) ?_
        refine l_aload_n 444 dL_law_443 rfl rfl ?_
        refine l_aload_n 445 dL_law_444 rfl rfl ?_
        refine l_iload_n 446 dL_law_445 rfl rfl ?_
        refine l_iconst (v := 1) 447 dL_law_446 rfl (by decide) ?_
        refine l_iadd 448 dL_law_447 rfl ?_
        refine l_ialoadX 449 dL_law_448 rfl (fun b60 => ?_)
        refine l_callVi (M2 := mX11_mean) [vI (xs (ix (x3 + 1)))] 452 oa1 cc11 mkX11_mean w_510 dL_law_449 rfl rfl (tX11_mean Θ l _  _) (Nat.le_of_ble_eq_true rfl) (Nat.le_of_ble_eq_true rfl) (Nat.le_of_ble_eq_true rfl) (fun r61 s62 => ?_)
        refine l_aload_n 453 dL_law_452 rfl rfl ?_
        refine l_aload_n 454 dL_law_453 rfl rfl ?_
        refine l_iload_n 455 dL_law_454 rfl rfl ?_
        refine l_iconst (v := 1) 456 dL_law_455 rfl (by decide) ?_
        refine l_iadd 457 dL_law_456 rfl ?_
        refine l_ialoadX 458 dL_law_457 rfl (fun b63 => ?_)
        refine l_callVi (M2 := mX12_mean) [vI (xs (ix (x3 + 1)))] 461 oa68 cc12 mkX12_mean w_1430 dL_law_458 rfl rfl (tX12_mean Θ l _  _) (Nat.le_of_ble_eq_true rfl) (Nat.le_of_ble_eq_true rfl) (Nat.le_of_ble_eq_true rfl) (fun r64 s65 => ?_)
        refine l_icmp_eq 1477 464 dL_law_461 (by decide) rfl (fun c66 => ?_) (fun c66 => ?_)
        · refine l_iinc (v := x3 + 6) (ls' := [some (vR 950), some (vR 1), some (vR 68), some (vI (x3 + 6))]) 1480 dL_law_1477 rfl rfl rfl (by decide) rfl rfl ?_
          refine l_goto 18 dL_law_1480 (by decide) ?_
          refine l_sub (ls' := [some (vR 950), some (vR 1), some (vR 68), some (vI (x3 + 6))]) (And.intro rfl (And.intro rfl (And.intro rfl (And.intro rfl trivial)))) ?_
          exact ih (x3 + 6) s65
        · refine l_iconst (v := 0) 465 dL_law_464 rfl (by decide) ?_
          exact l_ret0
      refine l_ite (fun c67 => ?_) (fun c67 => ?_)
      · refine l_tabIn (v := 6) 466 dL_law_33 c67 (by decide) (by decide) rfl (by decide) ?_
        refine l_aload_n 467 dL_law_466 rfl rfl ?_
        refine l_aload_n 468 dL_law_467 rfl rfl ?_
        refine l_iload_n 469 dL_law_468 rfl rfl ?_
        refine l_iconst (v := 1) 470 dL_law_469 rfl (by decide) ?_
        refine l_iadd 471 dL_law_470 rfl ?_
        refine l_ialoadX 472 dL_law_471 rfl (fun b68 => ?_)
        refine l_aload_n 473 dL_law_472 rfl rfl ?_
        refine l_iload_n 474 dL_law_473 rfl rfl ?_
        refine l_iconst (v := 2) 475 dL_law_474 rfl (by decide) ?_
        refine l_iadd 476 dL_law_475 rfl ?_
        refine l_ialoadX 477 dL_law_476 rfl (fun b69 => ?_)
        refine l_callVi (M2 := mX11_text) [vI (xs (ix (x3 + 1))), vI (xs (ix (x3 + 2)))] 480 oa1 cc11 mkX11_text w_518 dL_law_477 rfl rfl (tX11_text Θ l _ _  _) (Nat.le_of_ble_eq_true rfl) (Nat.le_of_ble_eq_true rfl) (Nat.le_of_ble_eq_true rfl) (fun r70 s71 => ?_)
        refine l_aload_n 481 dL_law_480 rfl rfl ?_
        refine l_aload_n 482 dL_law_481 rfl rfl ?_
        refine l_iload_n 483 dL_law_482 rfl rfl ?_
        refine l_iconst (v := 1) 484 dL_law_483 rfl (by decide) ?_
        refine l_iadd 485 dL_law_484 rfl ?_
        refine l_ialoadX 486 dL_law_485 rfl (fun b72 => ?_)
        refine l_aload_n 487 dL_law_486 rfl rfl ?_
        refine l_iload_n 488 dL_law_487 rfl rfl ?_
        refine l_iconst (v := 2) 489 dL_law_488 rfl (by decide) ?_
        refine l_iadd 490 dL_law_489 rfl ?_
        refine l_ialoadX 491 dL_law_490 rfl (fun b73 => ?_)
        refine l_callVi (M2 := mX12_text) [vI (xs (ix (x3 + 1))), vI (xs (ix (x3 + 2)))] 494 oa68 cc12 mkX12_text w_1434 dL_law_491 rfl rfl (tX12_text Θ l _ _  _) (Nat.le_of_ble_eq_true rfl) (Nat.le_of_ble_eq_true rfl) (Nat.le_of_ble_eq_true rfl) (fun r74 s75 => ?_)
        refine l_icmp_eq 1477 497 dL_law_494 (by decide) rfl (fun c76 => ?_) (fun c76 => ?_)
        · refine l_iinc (v := x3 + 6) (ls' := [some (vR 950), some (vR 1), some (vR 68), some (vI (x3 + 6))]) 1480 dL_law_1477 rfl rfl rfl (by decide) rfl rfl ?_
          refine l_goto 18 dL_law_1480 (by decide) ?_
          refine l_sub (ls' := [some (vR 950), some (vR 1), some (vR 68), some (vI (x3 + 6))]) (And.intro rfl (And.intro rfl (And.intro rfl (And.intro rfl trivial)))) ?_
          exact ih (x3 + 6) s75
        · refine l_iconst (v := 0) 498 dL_law_497 rfl (by decide) ?_
          exact l_ret0
      refine l_ite (fun c77 => ?_) (fun c77 => ?_)
      · refine l_tabIn (v := 7) 499 dL_law_33 c77 (by decide) (by decide) rfl (by decide) ?_
        refine l_aload_n 500 dL_law_499 rfl rfl ?_
        refine l_aload_n 501 dL_law_500 rfl rfl ?_
        refine l_iload_n 502 dL_law_501 rfl rfl ?_
        refine l_iconst (v := 1) 503 dL_law_502 rfl (by decide) ?_
        refine l_iadd 504 dL_law_503 rfl ?_
        refine l_ialoadX 505 dL_law_504 rfl (fun b78 => ?_)
        refine l_aload_n 506 dL_law_505 rfl rfl ?_
        refine l_iload_n 507 dL_law_506 rfl rfl ?_
        refine l_iconst (v := 2) 508 dL_law_507 rfl (by decide) ?_
        refine l_iadd 509 dL_law_508 rfl ?_
        refine l_ialoadX 510 dL_law_509 rfl (fun b79 => ?_)
        refine l_aload_n 511 dL_law_510 rfl rfl ?_
        refine l_iload_n 512 dL_law_511 rfl rfl ?_
        refine l_iconst (v := 3) 513 dL_law_512 rfl (by decide) ?_
        refine l_iadd 514 dL_law_513 rfl ?_
        refine l_ialoadX 515 dL_law_514 rfl (fun b80 => ?_)
        refine l_callVi (M2 := mX11_put) [vI (xs (ix (x3 + 1))), vI (xs (ix (x3 + 2))), vI (xs (ix (x3 + 3)))] 518 oa1 cc11 mkX11_put w_532 dL_law_515 rfl rfl (tX11_put Θ l _ _ _  _) (Nat.le_of_ble_eq_true rfl) (Nat.le_of_ble_eq_true rfl) (Nat.le_of_ble_eq_true rfl) (fun r81 s82 => ?_)
        refine l_aload_n 519 dL_law_518 rfl rfl ?_
        refine l_aload_n 520 dL_law_519 rfl rfl ?_
        refine l_iload_n 521 dL_law_520 rfl rfl ?_
        refine l_iconst (v := 1) 522 dL_law_521 rfl (by decide) ?_
        refine l_iadd 523 dL_law_522 rfl ?_
        refine l_ialoadX 524 dL_law_523 rfl (fun b83 => ?_)
        refine l_aload_n 525 dL_law_524 rfl rfl ?_
        refine l_iload_n 526 dL_law_525 rfl rfl ?_
        refine l_iconst (v := 2) 527 dL_law_526 rfl (by decide) ?_
        refine l_iadd 528 dL_law_527 rfl ?_
        refine l_ialoadX 529 dL_law_528 rfl (fun b84 => ?_)
        refine l_aload_n 530 dL_law_529 rfl rfl ?_
        refine l_iload_n 531 dL_law_530 rfl rfl ?_
        refine l_iconst (v := 3) 532 dL_law_531 rfl (by decide) ?_
        refine l_iadd 533 dL_law_532 rfl ?_
        refine l_ialoadX 534 dL_law_533 rfl (fun b85 => ?_)
        refine l_callVi (M2 := mX12_put) [vI (xs (ix (x3 + 1))), vI (xs (ix (x3 + 2))), vI (xs (ix (x3 + 3)))] 537 oa68 cc12 mkX12_put w_1441 dL_law_534 rfl rfl (tX12_put Θ l _ _ _  _) (Nat.le_of_ble_eq_true rfl) (Nat.le_of_ble_eq_true rfl) (Nat.le_of_ble_eq_true rfl) (fun r86 s87 => ?_)
        refine l_icmp_eq 1477 540 dL_law_537 (by decide) rfl (fun c88 => ?_) (fun c88 => ?_)
        · refine l_iinc (v := x3 + 6) (ls' := [some (vR 950), some (vR 1), some (vR 68), some (vI (x3 + 6))]) 1480 dL_law_1477 rfl rfl rfl (by decide) rfl rfl ?_
          refine l_goto 18 dL_law_1480 (by decide) ?_
          refine l_sub (ls' := [some (vR 950), some (vR 1), some (vR 68), some (vI (x3 + 6))]) (And.intro rfl (And.intro rfl (And.intro rfl (And.intro rfl trivial)))) ?_
          exact ih (x3 + 6) s87
        · refine l_iconst (v := 0) 541 dL_law_540 rfl (by decide) ?_
          exact l_ret0
      refine l_ite (fun c89 => ?_) (fun c89 => ?_)
      · refine l_tabIn (v := 8) 542 dL_law_33 c89 (by decide) (by decide) rfl (by decide) ?_
        refine l_aload_n 543 dL_law_542 rfl rfl ?_
        refine l_aload_n 544 dL_law_543 rfl rfl ?_
        refine l_iload_n 545 dL_law_544 rfl rfl ?_
        refine l_iconst (v := 1) 546 dL_law_545 rfl (by decide) ?_
        refine l_iadd 547 dL_law_546 rfl ?_
        refine l_ialoadX 548 dL_law_547 rfl (fun b90 => ?_)
        refine l_aload_n 549 dL_law_548 rfl rfl ?_
        refine l_iload_n 550 dL_law_549 rfl rfl ?_
        refine l_iconst (v := 2) 551 dL_law_550 rfl (by decide) ?_
        refine l_iadd 552 dL_law_551 rfl ?_
        refine l_ialoadX 553 dL_law_552 rfl (fun b91 => ?_)
        refine l_if_eq 560 556 dL_law_553 (by decide) rfl (fun c92 => ?_) (fun c92 => ?_)
        · refine l_iconst (v := 0) 561 dL_law_560 rfl (by decide) ?_
          refine l_callVi (M2 := mX11_fault) [vI (xs (ix (x3 + 1))), vI 0] 564 oa1 cc11 mkX11_fault w_544 dL_law_561 rfl rfl (tX11_fault Θ l _ _  _) (Nat.le_of_ble_eq_true rfl) (Nat.le_of_ble_eq_true rfl) (Nat.le_of_ble_eq_true rfl) (fun r93 s94 => ?_)
          refine l_aload_n 565 dL_law_564 rfl rfl ?_
          refine l_aload_n 566 dL_law_565 rfl rfl ?_
          refine l_iload_n 567 dL_law_566 rfl rfl ?_
          refine l_iconst (v := 1) 568 dL_law_567 rfl (by decide) ?_
          refine l_iadd 569 dL_law_568 rfl ?_
          refine l_ialoadX 570 dL_law_569 rfl (fun b95 => ?_)
          refine l_aload_n 571 dL_law_570 rfl rfl ?_
          refine l_iload_n 572 dL_law_571 rfl rfl ?_
          refine l_iconst (v := 2) 573 dL_law_572 rfl (by decide) ?_
          refine l_iadd 574 dL_law_573 rfl ?_
          refine l_ialoadX 575 dL_law_574 rfl (fun b96 => ?_)
          refine l_if_eq 582 578 dL_law_575 (by decide) rfl (fun c97 => ?_) (fun c97 => ?_)
          · refine l_iconst (v := 0) 583 dL_law_582 rfl (by decide) ?_
            refine l_callVi (M2 := mX12_fault) [vI (xs (ix (x3 + 1))), vI 0] 586 oa68 cc12 mkX12_fault w_1445 dL_law_583 rfl rfl (tX12_fault Θ l _ _  _) (Nat.le_of_ble_eq_true rfl) (Nat.le_of_ble_eq_true rfl) (Nat.le_of_ble_eq_true rfl) (fun r98 s99 => ?_)
            refine l_icmp_eq 1477 589 dL_law_586 (by decide) rfl (fun c100 => ?_) (fun c100 => ?_)
            · refine l_iinc (v := x3 + 6) (ls' := [some (vR 950), some (vR 1), some (vR 68), some (vI (x3 + 6))]) 1480 dL_law_1477 rfl rfl rfl (by decide) rfl rfl ?_
              refine l_goto 18 dL_law_1480 (by decide) ?_
              refine l_sub (ls' := [some (vR 950), some (vR 1), some (vR 68), some (vI (x3 + 6))]) (And.intro rfl (And.intro rfl (And.intro rfl (And.intro rfl trivial)))) ?_
              exact ih (x3 + 6) s99
            · refine l_iconst (v := 0) 590 dL_law_589 rfl (by decide) ?_
              exact l_ret0
          · refine l_iconst (v := 1) 579 dL_law_578 rfl (by decide) ?_
            refine l_goto 583 dL_law_579 (by decide) ?_
            refine l_callVi (M2 := mX12_fault) [vI (xs (ix (x3 + 1))), vI 1] 586 oa68 cc12 mkX12_fault w_1445 dL_law_583 rfl rfl (tX12_fault Θ l _ _  _) (Nat.le_of_ble_eq_true rfl) (Nat.le_of_ble_eq_true rfl) (Nat.le_of_ble_eq_true rfl) (fun r101 s102 => ?_)
            refine l_icmp_eq 1477 589 dL_law_586 (by decide) rfl (fun c103 => ?_) (fun c103 => ?_)
            · refine l_iinc (v := x3 + 6) (ls' := [some (vR 950), some (vR 1), some (vR 68), some (vI (x3 + 6))]) 1480 dL_law_1477 rfl rfl rfl (by decide) rfl rfl ?_
              refine l_goto 18 dL_law_1480 (by decide) ?_
              refine l_sub (ls' := [some (vR 950), some (vR 1), some (vR 68), some (vI (x3 + 6))]) (And.intro rfl (And.intro rfl (And.intro rfl (And.intro rfl trivial)))) ?_
              exact ih (x3 + 6) s102
            · refine l_iconst (v := 0) 590 dL_law_589 rfl (by decide) ?_
              exact l_ret0
        · refine l_iconst (v := 1) 557 dL_law_556 rfl (by decide) ?_
          refine l_goto 561 dL_law_557 (by decide) ?_
          refine l_callVi (M2 := mX11_fault) [vI (xs (ix (x3 + 1))), vI 1] 564 oa1 cc11 mkX11_fault w_544 dL_law_561 rfl rfl (tX11_fault Θ l _ _  _) (Nat.le_of_ble_eq_true rfl) (Nat.le_of_ble_eq_true rfl) (Nat.le_of_ble_eq_true rfl) (fun r104 s105 => ?_)
          refine l_aload_n 565 dL_law_564 rfl rfl ?_
          refine l_aload_n 566 dL_law_565 rfl rfl ?_
          refine l_iload_n 567 dL_law_566 rfl rfl ?_
          refine l_iconst (v := 1) 568 dL_law_567 rfl (by decide) ?_
          refine l_iadd 569 dL_law_568 rfl ?_
          refine l_ialoadX 570 dL_law_569 rfl (fun b106 => ?_)
          refine l_aload_n 571 dL_law_570 rfl rfl ?_
          refine l_iload_n 572 dL_law_571 rfl rfl ?_
          refine l_iconst (v := 2) 573 dL_law_572 rfl (by decide) ?_
          refine l_iadd 574 dL_law_573 rfl ?_
          refine l_ialoadX 575 dL_law_574 rfl (fun b107 => ?_)
          refine l_if_eq 582 578 dL_law_575 (by decide) rfl (fun c108 => ?_) (fun c108 => ?_)
          · refine l_iconst (v := 0) 583 dL_law_582 rfl (by decide) ?_
            refine l_callVi (M2 := mX12_fault) [vI (xs (ix (x3 + 1))), vI 0] 586 oa68 cc12 mkX12_fault w_1445 dL_law_583 rfl rfl (tX12_fault Θ l _ _  _) (Nat.le_of_ble_eq_true rfl) (Nat.le_of_ble_eq_true rfl) (Nat.le_of_ble_eq_true rfl) (fun r109 s110 => ?_)
            refine l_icmp_eq 1477 589 dL_law_586 (by decide) rfl (fun c111 => ?_) (fun c111 => ?_)
            · refine l_iinc (v := x3 + 6) (ls' := [some (vR 950), some (vR 1), some (vR 68), some (vI (x3 + 6))]) 1480 dL_law_1477 rfl rfl rfl (by decide) rfl rfl ?_
              refine l_goto 18 dL_law_1480 (by decide) ?_
              refine l_sub (ls' := [some (vR 950), some (vR 1), some (vR 68), some (vI (x3 + 6))]) (And.intro rfl (And.intro rfl (And.intro rfl (And.intro rfl trivial)))) ?_
              exact ih (x3 + 6) s110
            · refine l_iconst (v := 0) 590 dL_law_589 rfl (by decide) ?_
              exact l_ret0
          · refine l_iconst (v := 1) 579 dL_law_578 rfl (by decide) ?_
            refine l_goto 583 dL_law_579 (by decide) ?_
            refine l_callVi (M2 := mX12_fault) [vI (xs (ix (x3 + 1))), vI 1] 586 oa68 cc12 mkX12_fault w_1445 dL_law_583 rfl rfl (tX12_fault Θ l _ _  _) (Nat.le_of_ble_eq_true rfl) (Nat.le_of_ble_eq_true rfl) (Nat.le_of_ble_eq_true rfl) (fun r112 s113 => ?_)
            refine l_icmp_eq 1477 589 dL_law_586 (by decide) rfl (fun c114 => ?_) (fun c114 => ?_)
            · refine l_iinc (v := x3 + 6) (ls' := [some (vR 950), some (vR 1), some (vR 68), some (vI (x3 + 6))]) 1480 dL_law_1477 rfl rfl rfl (by decide) rfl rfl ?_
              refine l_goto 18 dL_law_1480 (by decide) ?_
              refine l_sub (ls' := [some (vR 950), some (vR 1), some (vR 68), some (vI (x3 + 6))]) (And.intro rfl (And.intro rfl (And.intro rfl (And.intro rfl trivial)))) ?_
              exact ih (x3 + 6) s113
            · refine l_iconst (v := 0) 590 dL_law_589 rfl (by decide) ?_
              exact l_ret0
      refine l_ite (fun c115 => ?_) (fun c115 => ?_)
      · refine l_tabIn (v := 9) 591 dL_law_33 c115 (by decide) (by decide) rfl (by decide) ?_
        refine l_aload_n 592 dL_law_591 rfl rfl ?_
        refine l_aload_n 593 dL_law_592 rfl rfl ?_
        refine l_iload_n 594 dL_law_593 rfl rfl ?_
        refine l_iconst (v := 1) 595 dL_law_594 rfl (by decide) ?_
        refine l_iadd 596 dL_law_595 rfl ?_
        refine l_ialoadX 597 dL_law_596 rfl (fun b116 => ?_)
        refine l_callVi (M2 := mX11_barge) [vI (xs (ix (x3 + 1)))] 600 oa1 cc11 mkX11_barge w_576 dL_law_597 rfl rfl (tX11_barge Θ l _  _) (Nat.le_of_ble_eq_true rfl) (Nat.le_of_ble_eq_true rfl) (Nat.le_of_ble_eq_true rfl) (fun r117 s118 => ?_)
        refine l_aload_n 601 dL_law_600 rfl rfl ?_
        refine l_aload_n 602 dL_law_601 rfl rfl ?_
        refine l_iload_n 603 dL_law_602 rfl rfl ?_
        refine l_iconst (v := 1) 604 dL_law_603 rfl (by decide) ?_
        refine l_iadd 605 dL_law_604 rfl ?_
        refine l_ialoadX 606 dL_law_605 rfl (fun b119 => ?_)
        refine l_callVi (M2 := mX12_barge) [vI (xs (ix (x3 + 1)))] 609 oa68 cc12 mkX12_barge w_1479 dL_law_606 rfl rfl (tX12_barge Θ l _  _) (Nat.le_of_ble_eq_true rfl) (Nat.le_of_ble_eq_true rfl) (Nat.le_of_ble_eq_true rfl) (fun r120 s121 => ?_)
        refine l_icmp_eq 1477 612 dL_law_609 (by decide) rfl (fun c122 => ?_) (fun c122 => ?_)
        · refine l_iinc (v := x3 + 6) (ls' := [some (vR 950), some (vR 1), some (vR 68), some (vI (x3 + 6))]) 1480 dL_law_1477 rfl rfl rfl (by decide) rfl rfl ?_
          refine l_goto 18 dL_law_1480 (by decide) ?_
          refine l_sub (ls' := [some (vR 950), some (vR 1), some (vR 68), some (vI (x3 + 6))]) (And.intro rfl (And.intro rfl (And.intro rfl (And.intro rfl trivial)))) ?_
          exact ih (x3 + 6) s121
        · refine l_iconst (v := 0) 613 dL_law_612 rfl (by decide) ?_
          exact l_ret0
      refine l_ite (fun c123 => ?_) (fun c123 => ?_)
      · refine l_tabIn (v := 10) 614 dL_law_33 c123 (by decide) (by decide) rfl (by decide) ?_
        refine l_aload_n 615 dL_law_614 rfl rfl ?_
        refine l_aload_n 616 dL_law_615 rfl rfl ?_
        refine l_iload_n 617 dL_law_616 rfl rfl ?_
        refine l_iconst (v := 1) 618 dL_law_617 rfl (by decide) ?_
        refine l_iadd 619 dL_law_618 rfl ?_
        refine l_ialoadX 620 dL_law_619 rfl (fun b124 => ?_)
        refine l_callVi (M2 := mX11_rite) [vI (xs (ix (x3 + 1)))] 623 oa1 cc11 mkX11_rite w_654 dL_law_620 rfl rfl (tX11_rite Θ l _  _) (Nat.le_of_ble_eq_true rfl) (Nat.le_of_ble_eq_true rfl) (Nat.le_of_ble_eq_true rfl) (fun r125 s126 => ?_)
        refine l_aload_n 624 dL_law_623 rfl rfl ?_
        refine l_aload_n 625 dL_law_624 rfl rfl ?_
        refine l_iload_n 626 dL_law_625 rfl rfl ?_
        refine l_iconst (v := 1) 627 dL_law_626 rfl (by decide) ?_
        refine l_iadd 628 dL_law_627 rfl ?_
        refine l_ialoadX 629 dL_law_628 rfl (fun b127 => ?_)
        refine l_callVi (M2 := mX12_rite) [vI (xs (ix (x3 + 1)))] 632 oa68 cc12 mkX12_rite w_1483 dL_law_629 rfl rfl (tX12_rite Θ l _  _) (Nat.le_of_ble_eq_true rfl) (Nat.le_of_ble_eq_true rfl) (Nat.le_of_ble_eq_true rfl) (fun r128 s129 => ?_)
        refine l_icmp_eq 1477 635 dL_law_632 (by decide) rfl (fun c130 => ?_) (fun c130 => ?_)
        · refine l_iinc (v := x3 + 6) (ls' := [some (vR 950), some (vR 1), some (vR 68), some (vI (x3 + 6))]) 1480 dL_law_1477 rfl rfl rfl (by decide) rfl rfl ?_
          refine l_goto 18 dL_law_1480 (by decide) ?_
          refine l_sub (ls' := [some (vR 950), some (vR 1), some (vR 68), some (vI (x3 + 6))]) (And.intro rfl (And.intro rfl (And.intro rfl (And.intro rfl trivial)))) ?_
          exact ih (x3 + 6) s129
        · refine l_iconst (v := 0) 636 dL_law_635 rfl (by decide) ?_
          exact l_ret0
      refine l_ite (fun c131 => ?_) (fun c131 => ?_)
      · refine l_tabIn (v := 11) 637 dL_law_33 c131 (by decide) (by decide) rfl (by decide) ?_
        refine l_aload_n 638 dL_law_637 rfl rfl ?_
        refine l_aload_n 639 dL_law_638 rfl rfl ?_
        refine l_iload_n 640 dL_law_639 rfl rfl ?_
        refine l_iconst (v := 1) 641 dL_law_640 rfl (by decide) ?_
        refine l_iadd 642 dL_law_641 rfl ?_
        refine l_ialoadX 643 dL_law_642 rfl (fun b132 => ?_)
        refine l_aload_n 644 dL_law_643 rfl rfl ?_
        refine l_iload_n 645 dL_law_644 rfl rfl ?_
        refine l_iconst (v := 2) 646 dL_law_645 rfl (by decide) ?_
        refine l_iadd 647 dL_law_646 rfl ?_
        refine l_ialoadX 648 dL_law_647 rfl (fun b133 => ?_)
        refine l_callVi (M2 := mX11_bench) [vI (xs (ix (x3 + 1))), vI (xs (ix (x3 + 2)))] 651 oa1 cc11 mkX11_bench w_670 dL_law_648 rfl rfl (tX11_bench Θ l _ _  _) (Nat.le_of_ble_eq_true rfl) (Nat.le_of_ble_eq_true rfl) (Nat.le_of_ble_eq_true rfl) (fun r134 s135 => ?_)
        refine l_aload_n 652 dL_law_651 rfl rfl ?_
        refine l_aload_n 653 dL_law_652 rfl rfl ?_
        refine l_iload_n 654 dL_law_653 rfl rfl ?_
        refine l_iconst (v := 1) 655 dL_law_654 rfl (by decide) ?_
        refine l_iadd 656 dL_law_655 rfl ?_
        refine l_ialoadX 657 dL_law_656 rfl (fun b136 => ?_)
        refine l_aload_n 658 dL_law_657 rfl rfl ?_
        refine l_iload_n 659 dL_law_658 rfl rfl ?_
        refine l_iconst (v := 2) 660 dL_law_659 rfl (by decide) ?_
        refine l_iadd 661 dL_law_660 rfl ?_
        refine l_ialoadX 662 dL_law_661 rfl (fun b137 => ?_)
        refine l_callVi (M2 := mX12_bench) [vI (xs (ix (x3 + 1))), vI (xs (ix (x3 + 2)))] 665 oa68 cc12 mkX12_bench w_1487 dL_law_662 rfl rfl (tX12_bench Θ l _ _  _) (Nat.le_of_ble_eq_true rfl) (Nat.le_of_ble_eq_true rfl) (Nat.le_of_ble_eq_true rfl) (fun r138 s139 => ?_)
        refine l_icmp_eq 1477 668 dL_law_665 (by decide) rfl (fun c140 => ?_) (fun c140 => ?_)
        · refine l_iinc (v := x3 + 6) (ls' := [some (vR 950), some (vR 1), some (vR 68), some (vI (x3 + 6))]) 1480 dL_law_1477 rfl rfl rfl (by decide) rfl rfl ?_
          refine l_goto 18 dL_law_1480 (by decide) ?_
          refine l_sub (ls' := [some (vR 950), some (vR 1), some (vR 68), some (vI (x3 + 6))]) (And.intro rfl (And.intro rfl (And.intro rfl (And.intro rfl trivial)))) ?_
          exact ih (x3 + 6) s139
        · refine l_iconst (v := 0) 669 dL_law_668 rfl (by decide) ?_
          exact l_ret0
      refine l_ite (fun c141 => ?_) (fun c141 => ?_)
      · refine l_tabIn (v := 12) 670 dL_law_33 c141 (by decide) (by decide) rfl (by decide) ?_
        refine l_aload_n 671 dL_law_670 rfl rfl ?_
        refine l_aload_n 672 dL_law_671 rfl rfl ?_
        refine l_iload_n 673 dL_law_672 rfl rfl ?_
        refine l_iconst (v := 1) 674 dL_law_673 rfl (by decide) ?_
        refine l_iadd 675 dL_law_674 rfl ?_
        refine l_ialoadX 676 dL_law_675 rfl (fun b142 => ?_)
        refine l_aload_n 677 dL_law_676 rfl rfl ?_
        refine l_iload_n 678 dL_law_677 rfl rfl ?_
        refine l_iconst (v := 2) 679 dL_law_678 rfl (by decide) ?_
        refine l_iadd 680 dL_law_679 rfl ?_
        refine l_ialoadX 681 dL_law_680 rfl (fun b143 => ?_)
        refine l_callVi (M2 := mX11_guest) [vI (xs (ix (x3 + 1))), vI (xs (ix (x3 + 2)))] 684 oa1 cc11 mkX11_guest w_707 dL_law_681 rfl rfl (tX11_guest Θ l _ _  _) (Nat.le_of_ble_eq_true rfl) (Nat.le_of_ble_eq_true rfl) (Nat.le_of_ble_eq_true rfl) (fun r144 s145 => ?_)
        refine l_aload_n 685 dL_law_684 rfl rfl ?_
        refine l_aload_n 686 dL_law_685 rfl rfl ?_
        refine l_iload_n 687 dL_law_686 rfl rfl ?_
        refine l_iconst (v := 1) 688 dL_law_687 rfl (by decide) ?_
        refine l_iadd 689 dL_law_688 rfl ?_
        refine l_ialoadX 690 dL_law_689 rfl (fun b146 => ?_)
        refine l_aload_n 691 dL_law_690 rfl rfl ?_
        refine l_iload_n 692 dL_law_691 rfl rfl ?_
        refine l_iconst (v := 2) 693 dL_law_692 rfl (by decide) ?_
        refine l_iadd 694 dL_law_693 rfl ?_
        refine l_ialoadX 695 dL_law_694 rfl (fun b147 => ?_)
        refine l_callVi (M2 := mX12_guest) [vI (xs (ix (x3 + 1))), vI (xs (ix (x3 + 2)))] 698 oa68 cc12 mkX12_guest w_1515 dL_law_695 rfl rfl (tX12_guest Θ l _ _  _) (Nat.le_of_ble_eq_true rfl) (Nat.le_of_ble_eq_true rfl) (Nat.le_of_ble_eq_true rfl) (fun r148 s149 => ?_)
        refine l_icmp_eq 1477 701 dL_law_698 (by decide) rfl (fun c150 => ?_) (fun c150 => ?_)
        · refine l_iinc (v := x3 + 6) (ls' := [some (vR 950), some (vR 1), some (vR 68), some (vI (x3 + 6))]) 1480 dL_law_1477 rfl rfl rfl (by decide) rfl rfl ?_
          refine l_goto 18 dL_law_1480 (by decide) ?_
          refine l_sub (ls' := [some (vR 950), some (vR 1), some (vR 68), some (vI (x3 + 6))]) (And.intro rfl (And.intro rfl (And.intro rfl (And.intro rfl trivial)))) ?_
          exact ih (x3 + 6) s149
        · refine l_iconst (v := 0) 702 dL_law_701 rfl (by decide) ?_
          exact l_ret0
      refine l_ite (fun c151 => ?_) (fun c151 => ?_)
      · refine l_tabIn (v := 13) 703 dL_law_33 c151 (by decide) (by decide) rfl (by decide) ?_
        refine l_aload_n 704 dL_law_703 rfl rfl ?_
        refine l_aload_n 705 dL_law_704 rfl rfl ?_
        refine l_iload_n 706 dL_law_705 rfl rfl ?_
        refine l_iconst (v := 1) 707 dL_law_706 rfl (by decide) ?_
        refine l_iadd 708 dL_law_707 rfl ?_
        refine l_ialoadX 709 dL_law_708 rfl (fun b152 => ?_)
        refine l_aload_n 710 dL_law_709 rfl rfl ?_
        refine l_iload_n 711 dL_law_710 rfl rfl ?_
        refine l_iconst (v := 2) 712 dL_law_711 rfl (by decide) ?_
        refine l_iadd 713 dL_law_712 rfl ?_
        refine l_ialoadX 714 dL_law_713 rfl (fun b153 => ?_)
        refine l_callVi (M2 := mX11_mark) [vI (xs (ix (x3 + 1))), vI (xs (ix (x3 + 2)))] 717 oa1 cc11 mkX11_mark w_727 dL_law_714 rfl rfl (tX11_mark Θ l _ _  _) (Nat.le_of_ble_eq_true rfl) (Nat.le_of_ble_eq_true rfl) (Nat.le_of_ble_eq_true rfl) (fun r154 s155 => ?_)
        refine l_aload_n 718 dL_law_717 rfl rfl ?_
        refine l_aload_n 719 dL_law_718 rfl rfl ?_
        refine l_iload_n 720 dL_law_719 rfl rfl ?_
        refine l_iconst (v := 1) 721 dL_law_720 rfl (by decide) ?_
        refine l_iadd 722 dL_law_721 rfl ?_
        refine l_ialoadX 723 dL_law_722 rfl (fun b156 => ?_)
        refine l_aload_n 724 dL_law_723 rfl rfl ?_
        refine l_iload_n 725 dL_law_724 rfl rfl ?_
        refine l_iconst (v := 2) 726 dL_law_725 rfl (by decide) ?_
        refine l_iadd 727 dL_law_726 rfl ?_
        refine l_ialoadX 728 dL_law_727 rfl (fun b157 => ?_)
        refine l_callVi (M2 := mX12_mark) [vI (xs (ix (x3 + 1))), vI (xs (ix (x3 + 2)))] 731 oa68 cc12 mkX12_mark w_1527 dL_law_728 rfl rfl (tX12_mark Θ l _ _  _) (Nat.le_of_ble_eq_true rfl) (Nat.le_of_ble_eq_true rfl) (Nat.le_of_ble_eq_true rfl) (fun r158 s159 => ?_)
        refine l_icmp_eq 1477 734 dL_law_731 (by decide) rfl (fun c160 => ?_) (fun c160 => ?_)
        · refine l_iinc (v := x3 + 6) (ls' := [some (vR 950), some (vR 1), some (vR 68), some (vI (x3 + 6))]) 1480 dL_law_1477 rfl rfl rfl (by decide) rfl rfl ?_
          refine l_goto 18 dL_law_1480 (by decide) ?_
          refine l_sub (ls' := [some (vR 950), some (vR 1), some (vR 68), some (vI (x3 + 6))]) (And.intro rfl (And.intro rfl (And.intro rfl (And.intro rfl trivial)))) ?_
          exact ih (x3 + 6) s159
        · refine l_iconst (v := 0) 735 dL_law_734 rfl (by decide) ?_
          exact l_ret0
      refine l_ite (fun c161 => ?_) (fun c161 => ?_)
      · refine l_tabIn (v := 14) 736 dL_law_33 c161 (by decide) (by decide) rfl (by decide) ?_
        refine l_aload_n 737 dL_law_736 rfl rfl ?_
        refine l_aload_n 738 dL_law_737 rfl rfl ?_
        refine l_iload_n 739 dL_law_738 rfl rfl ?_
        refine l_iconst (v := 1) 740 dL_law_739 rfl (by decide) ?_
        refine l_iadd 741 dL_law_740 rfl ?_
        refine l_ialoadX 742 dL_law_741 rfl (fun b162 => ?_)
        refine l_callVi (M2 := mX11_limit) [vI (xs (ix (x3 + 1)))] 745 oa1 cc11 mkX11_limit w_754 dL_law_742 rfl rfl (tX11_limit Θ l _  _) (Nat.le_of_ble_eq_true rfl) (Nat.le_of_ble_eq_true rfl) (Nat.le_of_ble_eq_true rfl) (fun r163 s164 => ?_)
        refine l_aload_n 746 dL_law_745 rfl rfl ?_
        refine l_aload_n 747 dL_law_746 rfl rfl ?_
        refine l_iload_n 748 dL_law_747 rfl rfl ?_
        refine l_iconst (v := 1) 749 dL_law_748 rfl (by decide) ?_
        refine l_iadd 750 dL_law_749 rfl ?_
        refine l_ialoadX 751 dL_law_750 rfl (fun b165 => ?_)
        refine l_callVi (M2 := mX12_limit) [vI (xs (ix (x3 + 1)))] 754 oa68 cc12 mkX12_limit w_1552 dL_law_751 rfl rfl (tX12_limit Θ l _  _) (Nat.le_of_ble_eq_true rfl) (Nat.le_of_ble_eq_true rfl) (Nat.le_of_ble_eq_true rfl) (fun r166 s167 => ?_)
        refine l_icmp_eq 1477 757 dL_law_754 (by decide) rfl (fun c168 => ?_) (fun c168 => ?_)
        · refine l_iinc (v := x3 + 6) (ls' := [some (vR 950), some (vR 1), some (vR 68), some (vI (x3 + 6))]) 1480 dL_law_1477 rfl rfl rfl (by decide) rfl rfl ?_
          refine l_goto 18 dL_law_1480 (by decide) ?_
          refine l_sub (ls' := [some (vR 950), some (vR 1), some (vR 68), some (vI (x3 + 6))]) (And.intro rfl (And.intro rfl (And.intro rfl (And.intro rfl trivial)))) ?_
          exact ih (x3 + 6) s167
        · refine l_iconst (v := 0) 758 dL_law_757 rfl (by decide) ?_
          exact l_ret0
      refine l_ite (fun c169 => ?_) (fun c169 => ?_)
      · refine l_tabIn (v := 15) 759 dL_law_33 c169 (by decide) (by decide) rfl (by decide) ?_
        refine l_aload_n 760 dL_law_759 rfl rfl ?_
        refine l_aload_n 761 dL_law_760 rfl rfl ?_
        refine l_iload_n 762 dL_law_761 rfl rfl ?_
        refine l_iconst (v := 1) 763 dL_law_762 rfl (by decide) ?_
        refine l_iadd 764 dL_law_763 rfl ?_
        refine l_ialoadX 765 dL_law_764 rfl (fun b170 => ?_)
        refine l_callVi (M2 := mX11_rain) [vI (xs (ix (x3 + 1)))] 768 oa1 cc11 mkX11_rain w_758 dL_law_765 rfl rfl (tX11_rain Θ l _  _) (Nat.le_of_ble_eq_true rfl) (Nat.le_of_ble_eq_true rfl) (Nat.le_of_ble_eq_true rfl) (fun r171 s172 => ?_)
        refine l_aload_n 769 dL_law_768 rfl rfl ?_
        refine l_aload_n 770 dL_law_769 rfl rfl ?_
        refine l_iload_n 771 dL_law_770 rfl rfl ?_
        refine l_iconst (v := 1) 772 dL_law_771 rfl (by decide) ?_
        refine l_iadd 773 dL_law_772 rfl ?_
        refine l_ialoadX 774 dL_law_773 rfl (fun b173 => ?_)
        refine l_callVi (M2 := mX12_rain) [vI (xs (ix (x3 + 1)))] 777 oa68 cc12 mkX12_rain w_1556 dL_law_774 rfl rfl (tX12_rain Θ l _  _) (Nat.le_of_ble_eq_true rfl) (Nat.le_of_ble_eq_true rfl) (Nat.le_of_ble_eq_true rfl) (fun r174 s175 => ?_)
        refine l_icmp_eq 1477 780 dL_law_777 (by decide) rfl (fun c176 => ?_) (fun c176 => ?_)
        · refine l_iinc (v := x3 + 6) (ls' := [some (vR 950), some (vR 1), some (vR 68), some (vI (x3 + 6))]) 1480 dL_law_1477 rfl rfl rfl (by decide) rfl rfl ?_
          refine l_goto 18 dL_law_1480 (by decide) ?_
          refine l_sub (ls' := [some (vR 950), some (vR 1), some (vR 68), some (vI (x3 + 6))]) (And.intro rfl (And.intro rfl (And.intro rfl (And.intro rfl trivial)))) ?_
          exact ih (x3 + 6) s175
        · refine l_iconst (v := 0) 781 dL_law_780 rfl (by decide) ?_
          exact l_ret0
      refine l_ite (fun c177 => ?_) (fun c177 => ?_)
      · refine l_tabIn (v := 16) 782 dL_law_33 c177 (by decide) (by decide) rfl (by decide) ?_
        refine l_aload_n 783 dL_law_782 rfl rfl ?_
        refine l_aload_n 784 dL_law_783 rfl rfl ?_
        refine l_iload_n 785 dL_law_784 rfl rfl ?_
        refine l_iconst (v := 1) 786 dL_law_785 rfl (by decide) ?_
        refine l_iadd 787 dL_law_786 rfl ?_
        refine l_ialoadX 788 dL_law_787 rfl (fun b178 => ?_)
        refine l_aload_n 789 dL_law_788 rfl rfl ?_
        refine l_iload_n 790 dL_law_789 rfl rfl ?_
        refine l_iconst (v := 2) 791 dL_law_790 rfl (by decide) ?_
        refine l_iadd 792 dL_law_791 rfl ?_
        refine l_ialoadX 793 dL_law_792 rfl (fun b179 => ?_)
        refine l_callVi (M2 := mX11_quarrel) [vI (xs (ix (x3 + 1))), vI (xs (ix (x3 + 2)))] 796 oa1 cc11 mkX11_quarrel w_762 dL_law_793 rfl rfl (tX11_quarrel Θ l _ _  _) (Nat.le_of_ble_eq_true rfl) (Nat.le_of_ble_eq_true rfl) (Nat.le_of_ble_eq_true rfl) (fun r180 s181 => ?_)
        refine l_aload_n 797 dL_law_796 rfl rfl ?_
        refine l_aload_n 798 dL_law_797 rfl rfl ?_
        refine l_iload_n 799 dL_law_798 rfl rfl ?_
        refine l_iconst (v := 1) 800 dL_law_799 rfl (by decide) ?_
        refine l_iadd 801 dL_law_800 rfl ?_
        refine l_ialoadX 802 dL_law_801 rfl (fun b182 => ?_)
        refine l_aload_n 803 dL_law_802 rfl rfl ?_
        refine l_iload_n 804 dL_law_803 rfl rfl ?_
        refine l_iconst (v := 2) 805 dL_law_804 rfl (by decide) ?_
        refine l_iadd 806 dL_law_805 rfl ?_
        refine l_ialoadX 807 dL_law_806 rfl (fun b183 => ?_)
        refine l_callVi (M2 := mX12_quarrel) [vI (xs (ix (x3 + 1))), vI (xs (ix (x3 + 2)))] 810 oa68 cc12 mkX12_quarrel w_1560 dL_law_807 rfl rfl (tX12_quarrel Θ l _ _  _) (Nat.le_of_ble_eq_true rfl) (Nat.le_of_ble_eq_true rfl) (Nat.le_of_ble_eq_true rfl) (fun r184 s185 => ?_)
        refine l_icmp_eq 1477 813 dL_law_810 (by decide) rfl (fun c186 => ?_) (fun c186 => ?_)
        · refine l_iinc (v := x3 + 6) (ls' := [some (vR 950), some (vR 1), some (vR 68), some (vI (x3 + 6))]) 1480 dL_law_1477 rfl rfl rfl (by decide) rfl rfl ?_
          refine l_goto 18 dL_law_1480 (by decide) ?_
          refine l_sub (ls' := [some (vR 950), some (vR 1), some (vR 68), some (vI (x3 + 6))]) (And.intro rfl (And.intro rfl (And.intro rfl (And.intro rfl trivial)))) ?_
          exact ih (x3 + 6) s185
        · refine l_iconst (v := 0) 814 dL_law_813 rfl (by decide) ?_
          exact l_ret0
      refine l_ite (fun c187 => ?_) (fun c187 => ?_)
      · refine l_tabIn (v := 17) 815 dL_law_33 c187 (by decide) (by decide) rfl (by decide) ?_
        refine l_aload_n 816 dL_law_815 rfl rfl ?_
        refine l_aload_n 817 dL_law_816 rfl rfl ?_
        refine l_iload_n 818 dL_law_817 rfl rfl ?_
        refine l_iconst (v := 1) 819 dL_law_818 rfl (by decide) ?_
        refine l_iadd 820 dL_law_819 rfl ?_
        refine l_ialoadX 821 dL_law_820 rfl (fun b188 => ?_)
        refine l_callVi (M2 := mX11_peace) [vI (xs (ix (x3 + 1)))] 824 oa1 cc11 mkX11_peace w_770 dL_law_821 rfl rfl (tX11_peace Θ l _  _) (Nat.le_of_ble_eq_true rfl) (Nat.le_of_ble_eq_true rfl) (Nat.le_of_ble_eq_true rfl) (fun r189 s190 => ?_)
        refine l_aload_n 825 dL_law_824 rfl rfl ?_
        refine l_aload_n 826 dL_law_825 rfl rfl ?_
        refine l_iload_n 827 dL_law_826 rfl rfl ?_
        refine l_iconst (v := 1) 828 dL_law_827 rfl (by decide) ?_
        refine l_iadd 829 dL_law_828 rfl ?_
        refine l_ialoadX 830 dL_law_829 rfl (fun b191 => ?_)
        refine l_callVi (M2 := mX12_peace) [vI (xs (ix (x3 + 1)))] 833 oa68 cc12 mkX12_peace w_1564 dL_law_830 rfl rfl (tX12_peace Θ l _  _) (Nat.le_of_ble_eq_true rfl) (Nat.le_of_ble_eq_true rfl) (Nat.le_of_ble_eq_true rfl) (fun r192 s193 => ?_)
        refine l_icmp_eq 1477 836 dL_law_833 (by decide) rfl (fun c194 => ?_) (fun c194 => ?_)
        · refine l_iinc (v := x3 + 6) (ls' := [some (vR 950), some (vR 1), some (vR 68), some (vI (x3 + 6))]) 1480 dL_law_1477 rfl rfl rfl (by decide) rfl rfl ?_
          refine l_goto 18 dL_law_1480 (by decide) ?_
          refine l_sub (ls' := [some (vR 950), some (vR 1), some (vR 68), some (vI (x3 + 6))]) (And.intro rfl (And.intro rfl (And.intro rfl (And.intro rfl trivial)))) ?_
          exact ih (x3 + 6) s193
        · refine l_iconst (v := 0) 837 dL_law_836 rfl (by decide) ?_
          exact l_ret0
      refine l_ite (fun c195 => ?_) (fun c195 => ?_)
      · refine l_tabIn (v := 18) 838 dL_law_33 c195 (by decide) (by decide) rfl (by decide) ?_
        refine l_aload_n 839 dL_law_838 rfl rfl ?_
        refine l_aload_n 840 dL_law_839 rfl rfl ?_
        refine l_iload_n 841 dL_law_840 rfl rfl ?_
        refine l_iconst (v := 1) 842 dL_law_841 rfl (by decide) ?_
        refine l_iadd 843 dL_law_842 rfl ?_
        refine l_ialoadX 844 dL_law_843 rfl (fun b196 => ?_)
        refine l_aload_n 845 dL_law_844 rfl rfl ?_
        refine l_iload_n 846 dL_law_845 rfl rfl ?_
        refine l_iconst (v := 2) 847 dL_law_846 rfl (by decide) ?_
        refine l_iadd 848 dL_law_847 rfl ?_
        refine l_ialoadX 849 dL_law_848 rfl (fun b197 => ?_)
        refine l_callVi (M2 := mX11_seat) [vI (xs (ix (x3 + 1))), vI (xs (ix (x3 + 2)))] 852 oa1 cc11 mkX11_seat w_775 dL_law_849 rfl rfl (tX11_seat Θ l _ _  _) (Nat.le_of_ble_eq_true rfl) (Nat.le_of_ble_eq_true rfl) (Nat.le_of_ble_eq_true rfl) (fun r198 s199 => ?_)
        refine l_aload_n 853 dL_law_852 rfl rfl ?_
        refine l_aload_n 854 dL_law_853 rfl rfl ?_
        refine l_iload_n 855 dL_law_854 rfl rfl ?_
        refine l_iconst (v := 1) 856 dL_law_855 rfl (by decide) ?_
        refine l_iadd 857 dL_law_856 rfl ?_
        refine l_ialoadX 858 dL_law_857 rfl (fun b200 => ?_)
        refine l_aload_n 859 dL_law_858 rfl rfl ?_
        refine l_iload_n 860 dL_law_859 rfl rfl ?_
        refine l_iconst (v := 2) 861 dL_law_860 rfl (by decide) ?_
        refine l_iadd 862 dL_law_861 rfl ?_
        refine l_ialoadX 863 dL_law_862 rfl (fun b201 => ?_)
        refine l_callVi (M2 := mX12_seat) [vI (xs (ix (x3 + 1))), vI (xs (ix (x3 + 2)))] 866 oa68 cc12 mkX12_seat w_1568 dL_law_863 rfl rfl (tX12_seat Θ l _ _  _) (Nat.le_of_ble_eq_true rfl) (Nat.le_of_ble_eq_true rfl) (Nat.le_of_ble_eq_true rfl) (fun r202 s203 => ?_)
        refine l_icmp_eq 1477 869 dL_law_866 (by decide) rfl (fun c204 => ?_) (fun c204 => ?_)
        · refine l_iinc (v := x3 + 6) (ls' := [some (vR 950), some (vR 1), some (vR 68), some (vI (x3 + 6))]) 1480 dL_law_1477 rfl rfl rfl (by decide) rfl rfl ?_
          refine l_goto 18 dL_law_1480 (by decide) ?_
          refine l_sub (ls' := [some (vR 950), some (vR 1), some (vR 68), some (vI (x3 + 6))]) (And.intro rfl (And.intro rfl (And.intro rfl (And.intro rfl trivial)))) ?_
          exact ih (x3 + 6) s203
        · refine l_iconst (v := 0) 870 dL_law_869 rfl (by decide) ?_
          exact l_ret0
      refine l_ite (fun c205 => ?_) (fun c205 => ?_)
      · refine l_tabIn (v := 19) 871 dL_law_33 c205 (by decide) (by decide) rfl (by decide) ?_
        refine l_aload_n 872 dL_law_871 rfl rfl ?_
        refine l_aload_n 873 dL_law_872 rfl rfl ?_
        refine l_iload_n 874 dL_law_873 rfl rfl ?_
        refine l_iconst (v := 1) 875 dL_law_874 rfl (by decide) ?_
        refine l_iadd 876 dL_law_875 rfl ?_
        refine l_ialoadX 877 dL_law_876 rfl (fun b206 => ?_)
        refine l_callVi (M2 := mX11_rise) [vI (xs (ix (x3 + 1)))] 880 oa1 cc11 mkX11_rise w_804 dL_law_877 rfl rfl (tX11_rise Θ l _  _) (Nat.le_of_ble_eq_true rfl) (Nat.le_of_ble_eq_true rfl) (Nat.le_of_ble_eq_true rfl) (fun r207 s208 => ?_)
        refine l_aload_n 881 dL_law_880 rfl rfl ?_
        refine l_aload_n 882 dL_law_881 rfl rfl ?_
        refine l_iload_n 883 dL_law_882 rfl rfl ?_
        refine l_iconst (v := 1) 884 dL_law_883 rfl (by decide) ?_
        refine l_iadd 885 dL_law_884 rfl ?_
        refine l_ialoadX 886 dL_law_885 rfl (fun b209 => ?_)
        refine l_callVi (M2 := mX12_rise) [vI (xs (ix (x3 + 1)))] 889 oa68 cc12 mkX12_rise w_1588 dL_law_886 rfl rfl (tX12_rise Θ l _  _) (Nat.le_of_ble_eq_true rfl) (Nat.le_of_ble_eq_true rfl) (Nat.le_of_ble_eq_true rfl) (fun r210 s211 => ?_)
        refine l_icmp_eq 1477 892 dL_law_889 (by decide) rfl (fun c212 => ?_) (fun c212 => ?_)
        · refine l_iinc (v := x3 + 6) (ls' := [some (vR 950), some (vR 1), some (vR 68), some (vI (x3 + 6))]) 1480 dL_law_1477 rfl rfl rfl (by decide) rfl rfl ?_
          refine l_goto 18 dL_law_1480 (by decide) ?_
          refine l_sub (ls' := [some (vR 950), some (vR 1), some (vR 68), some (vI (x3 + 6))]) (And.intro rfl (And.intro rfl (And.intro rfl (And.intro rfl trivial)))) ?_
          exact ih (x3 + 6) s211
        · refine l_iconst (v := 0) 893 dL_law_892 rfl (by decide) ?_
          exact l_ret0
      refine l_ite (fun c213 => ?_) (fun c213 => ?_)
      · refine l_tabIn (v := 20) 894 dL_law_33 c213 (by decide) (by decide) rfl (by decide) ?_
        refine l_aload_n 895 dL_law_894 rfl rfl ?_
        refine l_aload_n 896 dL_law_895 rfl rfl ?_
        refine l_iload_n 897 dL_law_896 rfl rfl ?_
        refine l_iconst (v := 1) 898 dL_law_897 rfl (by decide) ?_
        refine l_iadd 899 dL_law_898 rfl ?_
        refine l_ialoadX 900 dL_law_899 rfl (fun b214 => ?_)
        refine l_aload_n 901 dL_law_900 rfl rfl ?_
        refine l_iload_n 902 dL_law_901 rfl rfl ?_
        refine l_iconst (v := 2) 903 dL_law_902 rfl (by decide) ?_
        refine l_iadd 904 dL_law_903 rfl ?_
        refine l_ialoadX 905 dL_law_904 rfl (fun b215 => ?_)
        refine l_callVi (M2 := mX11_change) [vI (xs (ix (x3 + 1))), vI (xs (ix (x3 + 2)))] 908 oa1 cc11 mkX11_change w_808 dL_law_905 rfl rfl (tX11_change Θ l _ _  _) (Nat.le_of_ble_eq_true rfl) (Nat.le_of_ble_eq_true rfl) (Nat.le_of_ble_eq_true rfl) (fun r216 s217 => ?_)
        refine l_aload_n 909 dL_law_908 rfl rfl ?_
        refine l_aload_n 910 dL_law_909 rfl rfl ?_
        refine l_iload_n 911 dL_law_910 rfl rfl ?_
        refine l_iconst (v := 1) 912 dL_law_911 rfl (by decide) ?_
        refine l_iadd 913 dL_law_912 rfl ?_
        refine l_ialoadX 914 dL_law_913 rfl (fun b218 => ?_)
        refine l_aload_n 915 dL_law_914 rfl rfl ?_
        refine l_iload_n 916 dL_law_915 rfl rfl ?_
        refine l_iconst (v := 2) 917 dL_law_916 rfl (by decide) ?_
        refine l_iadd 918 dL_law_917 rfl ?_
        refine l_ialoadX 919 dL_law_918 rfl (fun b219 => ?_)
        refine l_callVi (M2 := mX12_change) [vI (xs (ix (x3 + 1))), vI (xs (ix (x3 + 2)))] 922 oa68 cc12 mkX12_change w_1592 dL_law_919 rfl rfl (tX12_change Θ l _ _  _) (Nat.le_of_ble_eq_true rfl) (Nat.le_of_ble_eq_true rfl) (Nat.le_of_ble_eq_true rfl) (fun r220 s221 => ?_)
        refine l_icmp_eq 1477 925 dL_law_922 (by decide) rfl (fun c222 => ?_) (fun c222 => ?_)
        · refine l_iinc (v := x3 + 6) (ls' := [some (vR 950), some (vR 1), some (vR 68), some (vI (x3 + 6))]) 1480 dL_law_1477 rfl rfl rfl (by decide) rfl rfl ?_
          refine l_goto 18 dL_law_1480 (by decide) ?_
          refine l_sub (ls' := [some (vR 950), some (vR 1), some (vR 68), some (vI (x3 + 6))]) (And.intro rfl (And.intro rfl (And.intro rfl (And.intro rfl trivial)))) ?_
          exact ih (x3 + 6) s221
        · refine l_iconst (v := 0) 926 dL_law_925 rfl (by decide) ?_
          exact l_ret0
      refine l_ite (fun c223 => ?_) (fun c223 => ?_)
      · refine l_tabIn (v := 21) 927 dL_law_33 c223 (by decide) (by decide) rfl (by decide) ?_
        refine l_aload_n 928 dL_law_927 rfl rfl ?_
        refine l_callVi (M2 := mX11_undo) [] 931 oa1 cc11 mkX11_undo w_819 dL_law_928 rfl rfl (tX11_undo Θ l   _) (Nat.le_of_ble_eq_true rfl) (Nat.le_of_ble_eq_true rfl) (Nat.le_of_ble_eq_true rfl) (fun r224 s225 => ?_)
        refine l_aload_n 932 dL_law_931 rfl rfl ?_
        refine l_callVi (M2 := mX12_undo) [] 935 oa68 cc12 mkX12_undo w_1604 dL_law_932 rfl rfl (tX12_undo Θ l   _) (Nat.le_of_ble_eq_true rfl) (Nat.le_of_ble_eq_true rfl) (Nat.le_of_ble_eq_true rfl) (fun r226 s227 => ?_)
        refine l_icmp_eq 1477 938 dL_law_935 (by decide) rfl (fun c228 => ?_) (fun c228 => ?_)
        · refine l_iinc (v := x3 + 6) (ls' := [some (vR 950), some (vR 1), some (vR 68), some (vI (x3 + 6))]) 1480 dL_law_1477 rfl rfl rfl (by decide) rfl rfl ?_
          refine l_goto 18 dL_law_1480 (by decide) ?_
          refine l_sub (ls' := [some (vR 950), some (vR 1), some (vR 68), some (vI (x3 + 6))]) (And.intro rfl (And.intro rfl (And.intro rfl (And.intro rfl trivial)))) ?_
          exact ih (x3 + 6) s227
        · refine l_iconst (v := 0) 939 dL_law_938 rfl (by decide) ?_
          exact l_ret0
      refine l_ite (fun c229 => ?_) (fun c229 => ?_)
      · refine l_tabIn (v := 22) 940 dL_law_33 c229 (by decide) (by decide) rfl (by decide) ?_
        refine l_aload_n 941 dL_law_940 rfl rfl ?_
        refine l_aload_n 942 dL_law_941 rfl rfl ?_
        refine l_iload_n 943 dL_law_942 rfl rfl ?_
        refine l_iconst (v := 1) 944 dL_law_943 rfl (by decide) ?_
        refine l_iadd 945 dL_law_944 rfl ?_
        refine l_ialoadX 946 dL_law_945 rfl (fun b230 => ?_)
        refine l_callVi (M2 := mX11_keep) [vI (xs (ix (x3 + 1)))] 949 oa1 cc11 mkX11_keep w_844 dL_law_946 rfl rfl (tX11_keep Θ l _  _) (Nat.le_of_ble_eq_true rfl) (Nat.le_of_ble_eq_true rfl) (Nat.le_of_ble_eq_true rfl) (fun r231 s232 => ?_)
        refine l_aload_n 950 dL_law_949 rfl rfl ?_
        refine l_aload_n 951 dL_law_950 rfl rfl ?_
        refine l_iload_n 952 dL_law_951 rfl rfl ?_
        refine l_iconst (v := 1) 953 dL_law_952 rfl (by decide) ?_
        refine l_iadd 954 dL_law_953 rfl ?_
        refine l_ialoadX 955 dL_law_954 rfl (fun b233 => ?_)
        refine l_callVi (M2 := mX12_keep) [vI (xs (ix (x3 + 1)))] 958 oa68 cc12 mkX12_keep w_1608 dL_law_955 rfl rfl (tX12_keep Θ l _  _) (Nat.le_of_ble_eq_true rfl) (Nat.le_of_ble_eq_true rfl) (Nat.le_of_ble_eq_true rfl) (fun r234 s235 => ?_)
        refine l_icmp_eq 1477 961 dL_law_958 (by decide) rfl (fun c236 => ?_) (fun c236 => ?_)
        · refine l_iinc (v := x3 + 6) (ls' := [some (vR 950), some (vR 1), some (vR 68), some (vI (x3 + 6))]) 1480 dL_law_1477 rfl rfl rfl (by decide) rfl rfl ?_
          refine l_goto 18 dL_law_1480 (by decide) ?_
          refine l_sub (ls' := [some (vR 950), some (vR 1), some (vR 68), some (vI (x3 + 6))]) (And.intro rfl (And.intro rfl (And.intro rfl (And.intro rfl trivial)))) ?_
          exact ih (x3 + 6) s235
        · refine l_iconst (v := 0) 962 dL_law_961 rfl (by decide) ?_
          exact l_ret0
      refine l_ite (fun c237 => ?_) (fun c237 => ?_)
      · refine l_tabIn (v := 23) 963 dL_law_33 c237 (by decide) (by decide) rfl (by decide) ?_
        refine l_aload_n 964 dL_law_963 rfl rfl ?_
        refine l_aload_n 965 dL_law_964 rfl rfl ?_
        refine l_iload_n 966 dL_law_965 rfl rfl ?_
        refine l_iconst (v := 1) 967 dL_law_966 rfl (by decide) ?_
        refine l_iadd 968 dL_law_967 rfl ?_
        refine l_ialoadX 969 dL_law_968 rfl (fun b238 => ?_)
        refine l_callVi (M2 := mX11_on) [vI (xs (ix (x3 + 1)))] 972 oa1 cc11 mkX11_on w_859 dL_law_969 rfl rfl (tX11_on Θ l _  _) (Nat.le_of_ble_eq_true rfl) (Nat.le_of_ble_eq_true rfl) (Nat.le_of_ble_eq_true rfl) (fun r239 s240 => ?_)
        refine l_aload_n 973 dL_law_972 rfl rfl ?_
        refine l_aload_n 974 dL_law_973 rfl rfl ?_
        refine l_iload_n 975 dL_law_974 rfl rfl ?_
        refine l_iconst (v := 1) 976 dL_law_975 rfl (by decide) ?_
        refine l_iadd 977 dL_law_976 rfl ?_
        refine l_ialoadX 978 dL_law_977 rfl (fun b241 => ?_)
        refine l_callVi (M2 := mX12_on) [vI (xs (ix (x3 + 1)))] 981 oa68 cc12 mkX12_on w_1616 dL_law_978 rfl rfl (tX12_on Θ l _  _) (Nat.le_of_ble_eq_true rfl) (Nat.le_of_ble_eq_true rfl) (Nat.le_of_ble_eq_true rfl) (fun r242 s243 => ?_)
        refine l_icmp_eq 1477 984 dL_law_981 (by decide) rfl (fun c244 => ?_) (fun c244 => ?_)
        · refine l_iinc (v := x3 + 6) (ls' := [some (vR 950), some (vR 1), some (vR 68), some (vI (x3 + 6))]) 1480 dL_law_1477 rfl rfl rfl (by decide) rfl rfl ?_
          refine l_goto 18 dL_law_1480 (by decide) ?_
          refine l_sub (ls' := [some (vR 950), some (vR 1), some (vR 68), some (vI (x3 + 6))]) (And.intro rfl (And.intro rfl (And.intro rfl (And.intro rfl trivial)))) ?_
          exact ih (x3 + 6) s243
        · refine l_iconst (v := 0) 985 dL_law_984 rfl (by decide) ?_
          exact l_ret0
      refine l_ite (fun c245 => ?_) (fun c245 => ?_)
      · refine l_tabIn (v := 24) 986 dL_law_33 c245 (by decide) (by decide) rfl (by decide) ?_
        refine l_aload_n 987 dL_law_986 rfl rfl ?_
        refine l_aload_n 988 dL_law_987 rfl rfl ?_
        refine l_iload_n 989 dL_law_988 rfl rfl ?_
        refine l_iconst (v := 1) 990 dL_law_989 rfl (by decide) ?_
        refine l_iadd 991 dL_law_990 rfl ?_
        refine l_ialoadX 992 dL_law_991 rfl (fun b246 => ?_)
        refine l_callVi (M2 := mX11_list) [vI (xs (ix (x3 + 1)))] 995 oa1 cc11 mkX11_list w_877 dL_law_992 rfl rfl (tX11_list Θ l _  _) (Nat.le_of_ble_eq_true rfl) (Nat.le_of_ble_eq_true rfl) (Nat.le_of_ble_eq_true rfl) (fun r247 s248 => ?_)
        refine l_aload_n 996 dL_law_995 rfl rfl ?_
        refine l_aload_n 997 dL_law_996 rfl rfl ?_
        refine l_iload_n 998 dL_law_997 rfl rfl ?_
        refine l_iconst (v := 1) 999 dL_law_998 rfl (by decide) ?_
        refine l_iadd 1000 dL_law_999 rfl ?_
        refine l_ialoadX 1001 dL_law_1000 rfl (fun b249 => ?_)
        refine l_callVi (M2 := mX12_list) [vI (xs (ix (x3 + 1)))] 1004 oa68 cc12 mkX12_list w_1620 dL_law_1001 rfl rfl (tX12_list Θ l _  _) (Nat.le_of_ble_eq_true rfl) (Nat.le_of_ble_eq_true rfl) (Nat.le_of_ble_eq_true rfl) (fun r250 s251 => ?_)
        refine l_icmp_eq 1477 1007 dL_law_1004 (by decide) rfl (fun c252 => ?_) (fun c252 => ?_)
        · refine l_iinc (v := x3 + 6) (ls' := [some (vR 950), some (vR 1), some (vR 68), some (vI (x3 + 6))]) 1480 dL_law_1477 rfl rfl rfl (by decide) rfl rfl ?_
          refine l_goto 18 dL_law_1480 (by decide) ?_
          refine l_sub (ls' := [some (vR 950), some (vR 1), some (vR 68), some (vI (x3 + 6))]) (And.intro rfl (And.intro rfl (And.intro rfl (And.intro rfl trivial)))) ?_
          exact ih (x3 + 6) s251
        · refine l_iconst (v := 0) 1008 dL_law_1007 rfl (by decide) ?_
          exact l_ret0
      refine l_ite (fun c253 => ?_) (fun c253 => ?_)
      · refine l_tabIn (v := 25) 1009 dL_law_33 c253 (by decide) (by decide) rfl (by decide) ?_
        refine l_aload_n 1010 dL_law_1009 rfl rfl ?_
        refine l_callVi (M2 := mX11_when) [] 1013 oa1 cc11 mkX11_when w_895 dL_law_1010 rfl rfl (tX11_when Θ l   _) (Nat.le_of_ble_eq_true rfl) (Nat.le_of_ble_eq_true rfl) (Nat.le_of_ble_eq_true rfl) (fun r254 s255 => ?_)
        refine l_aload_n 1014 dL_law_1013 rfl rfl ?_
        refine l_callVi (M2 := mX12_when) [] 1017 oa68 cc12 mkX12_when w_1632 dL_law_1014 rfl rfl (tX12_when Θ l   _) (Nat.le_of_ble_eq_true rfl) (Nat.le_of_ble_eq_true rfl) (Nat.le_of_ble_eq_true rfl) (fun r256 s257 => ?_)
        refine l_icmp_eq 1477 1020 dL_law_1017 (by decide) rfl (fun c258 => ?_) (fun c258 => ?_)
        · refine l_iinc (v := x3 + 6) (ls' := [some (vR 950), some (vR 1), some (vR 68), some (vI (x3 + 6))]) 1480 dL_law_1477 rfl rfl rfl (by decide) rfl rfl ?_
          refine l_goto 18 dL_law_1480 (by decide) ?_
          refine l_sub (ls' := [some (vR 950), some (vR 1), some (vR 68), some (vI (x3 + 6))]) (And.intro rfl (And.intro rfl (And.intro rfl (And.intro rfl trivial)))) ?_
          exact ih (x3 + 6) s257
        · refine l_iconst (v := 0) 1021 dL_law_1020 rfl (by decide) ?_
          exact l_ret0
      refine l_ite (fun c259 => ?_) (fun c259 => ?_)
      · refine l_tabIn (v := 26) 1022 dL_law_33 c259 (by decide) (by decide) rfl (by decide) ?_
        refine l_aload_n 1023 dL_law_1022 rfl rfl ?_
        refine l_callVi (M2 := mX11_minutes) [] 1026 oa1 cc11 mkX11_minutes w_903 dL_law_1023 rfl rfl (tX11_minutes Θ l   _) (Nat.le_of_ble_eq_true rfl) (Nat.le_of_ble_eq_true rfl) (Nat.le_of_ble_eq_true rfl) (fun r260 s261 => ?_)
        refine l_aload_n 1027 dL_law_1026 rfl rfl ?_
        refine l_callVi (M2 := mX12_minutes) [] 1030 oa68 cc12 mkX12_minutes w_1636 dL_law_1027 rfl rfl (tX12_minutes Θ l   _) (Nat.le_of_ble_eq_true rfl) (Nat.le_of_ble_eq_true rfl) (Nat.le_of_ble_eq_true rfl) (fun r262 s263 => ?_)
        refine l_icmp_eq 1477 1033 dL_law_1030 (by decide) rfl (fun c264 => ?_) (fun c264 => ?_)
        · refine l_iinc (v := x3 + 6) (ls' := [some (vR 950), some (vR 1), some (vR 68), some (vI (x3 + 6))]) 1480 dL_law_1477 rfl rfl rfl (by decide) rfl rfl ?_
          refine l_goto 18 dL_law_1480 (by decide) ?_
          refine l_sub (ls' := [some (vR 950), some (vR 1), some (vR 68), some (vI (x3 + 6))]) (And.intro rfl (And.intro rfl (And.intro rfl (And.intro rfl trivial)))) ?_
          exact ih (x3 + 6) s263
        · refine l_iconst (v := 0) 1034 dL_law_1033 rfl (by decide) ?_
          exact l_ret0
      refine l_ite (fun c265 => ?_) (fun c265 => ?_)
      · refine l_tabIn (v := 27) 1035 dL_law_33 c265 (by decide) (by decide) rfl (by decide) ?_
        refine l_aload_n 1036 dL_law_1035 rfl rfl ?_
        refine l_callVi (M2 := mX11_worst) [] 1039 oa1 cc11 mkX11_worst w_914 dL_law_1036 rfl rfl (tX11_worst Θ l   _) (Nat.le_of_ble_eq_true rfl) (Nat.le_of_ble_eq_true rfl) (Nat.le_of_ble_eq_true rfl) (fun r266 s267 => ?_)
        refine l_aload_n 1040 dL_law_1039 rfl rfl ?_
        refine l_callVi (M2 := mX12_worst) [] 1043 oa68 cc12 mkX12_worst w_1644 dL_law_1040 rfl rfl (tX12_worst Θ l   _) (Nat.le_of_ble_eq_true rfl) (Nat.le_of_ble_eq_true rfl) (Nat.le_of_ble_eq_true rfl) (fun r268 s269 => ?_)
        refine l_icmp_eq 1477 1046 dL_law_1043 (by decide) rfl (fun c270 => ?_) (fun c270 => ?_)
        · refine l_iinc (v := x3 + 6) (ls' := [some (vR 950), some (vR 1), some (vR 68), some (vI (x3 + 6))]) 1480 dL_law_1477 rfl rfl rfl (by decide) rfl rfl ?_
          refine l_goto 18 dL_law_1480 (by decide) ?_
          refine l_sub (ls' := [some (vR 950), some (vR 1), some (vR 68), some (vI (x3 + 6))]) (And.intro rfl (And.intro rfl (And.intro rfl (And.intro rfl trivial)))) ?_
          exact ih (x3 + 6) s269
        · refine l_iconst (v := 0) 1047 dL_law_1046 rfl (by decide) ?_
          exact l_ret0
      refine l_ite (fun c271 => ?_) (fun c271 => ?_)
      · refine l_tabIn (v := 28) 1048 dL_law_33 c271 (by decide) (by decide) rfl (by decide) ?_
        refine l_aload_n 1049 dL_law_1048 rfl rfl ?_
        refine l_callVi (M2 := mX11_need) [] 1052 oa1 cc11 mkX11_need w_927 dL_law_1049 rfl rfl (tX11_need Θ l   _) (Nat.le_of_ble_eq_true rfl) (Nat.le_of_ble_eq_true rfl) (Nat.le_of_ble_eq_true rfl) (fun r272 s273 => ?_)
        refine l_aload_n 1053 dL_law_1052 rfl rfl ?_
        refine l_callVi (M2 := mX12_need) [] 1056 oa68 cc12 mkX12_need w_1652 dL_law_1053 rfl rfl (tX12_need Θ l   _) (Nat.le_of_ble_eq_true rfl) (Nat.le_of_ble_eq_true rfl) (Nat.le_of_ble_eq_true rfl) (fun r274 s275 => ?_)
        refine l_icmp_eq 1477 1059 dL_law_1056 (by decide) rfl (fun c276 => ?_) (fun c276 => ?_)
        · refine l_iinc (v := x3 + 6) (ls' := [some (vR 950), some (vR 1), some (vR 68), some (vI (x3 + 6))]) 1480 dL_law_1477 rfl rfl rfl (by decide) rfl rfl ?_
          refine l_goto 18 dL_law_1480 (by decide) ?_
          refine l_sub (ls' := [some (vR 950), some (vR 1), some (vR 68), some (vI (x3 + 6))]) (And.intro rfl (And.intro rfl (And.intro rfl (And.intro rfl trivial)))) ?_
          exact ih (x3 + 6) s275
        · refine l_iconst (v := 0) 1060 dL_law_1059 rfl (by decide) ?_
          exact l_ret0
      refine l_ite (fun c277 => ?_) (fun c277 => ?_)
      · refine l_tabIn (v := 29) 1061 dL_law_33 c277 (by decide) (by decide) rfl (by decide) ?_
        refine l_aload_n 1062 dL_law_1061 rfl rfl ?_
        refine l_aload_n 1063 dL_law_1062 rfl rfl ?_
        refine l_iload_n 1064 dL_law_1063 rfl rfl ?_
        refine l_iconst (v := 1) 1065 dL_law_1064 rfl (by decide) ?_
        refine l_iadd 1066 dL_law_1065 rfl ?_
        refine l_ialoadX 1067 dL_law_1066 rfl (fun b278 => ?_)
        refine l_callVi (M2 := mX11_best) [vI (xs (ix (x3 + 1)))] 1070 oa1 cc11 mkX11_best w_931 dL_law_1067 rfl rfl (tX11_best Θ l _  _) (Nat.le_of_ble_eq_true rfl) (Nat.le_of_ble_eq_true rfl) (Nat.le_of_ble_eq_true rfl) (fun r279 s280 => ?_)
        refine l_aload_n 1071 dL_law_1070 rfl rfl ?_
        refine l_aload_n 1072 dL_law_1071 rfl rfl ?_
        refine l_iload_n 1073 dL_law_1072 rfl rfl ?_
        refine l_iconst (v := 1) 1074 dL_law_1073 rfl (by decide) ?_
        refine l_iadd 1075 dL_law_1074 rfl ?_
        refine l_ialoadX 1076 dL_law_1075 rfl (fun b281 => ?_)
        refine l_callVi (M2 := mX12_best) [vI (xs (ix (x3 + 1)))] 1079 oa68 cc12 mkX12_best w_1656 dL_law_1076 rfl rfl (tX12_best Θ l _  _) (Nat.le_of_ble_eq_true rfl) (Nat.le_of_ble_eq_true rfl) (Nat.le_of_ble_eq_true rfl) (fun r282 s283 => ?_)
        refine l_icmp_eq 1477 1082 dL_law_1079 (by decide) rfl (fun c284 => ?_) (fun c284 => ?_)
        · refine l_iinc (v := x3 + 6) (ls' := [some (vR 950), some (vR 1), some (vR 68), some (vI (x3 + 6))]) 1480 dL_law_1477 rfl rfl rfl (by decide) rfl rfl ?_
          refine l_goto 18 dL_law_1480 (by decide) ?_
          refine l_sub (ls' := [some (vR 950), some (vR 1), some (vR 68), some (vI (x3 + 6))]) (And.intro rfl (And.intro rfl (And.intro rfl (And.intro rfl trivial)))) ?_
          exact ih (x3 + 6) s283
        · refine l_iconst (v := 0) 1083 dL_law_1082 rfl (by decide) ?_
          exact l_ret0
      refine l_ite (fun c285 => ?_) (fun c285 => ?_)
      · refine l_tabIn (v := 30) 1084 dL_law_33 c285 (by decide) (by decide) rfl (by decide) ?_
        refine l_aload_n 1085 dL_law_1084 rfl rfl ?_
        refine l_callVi (M2 := mX11_ways) [] 1088 oa1 cc11 mkX11_ways w_989 dL_law_1085 rfl rfl (tX11_ways Θ l   _) (Nat.le_of_ble_eq_true rfl) (Nat.le_of_ble_eq_true rfl) (Nat.le_of_ble_eq_true rfl) (fun r286 s287 => ?_)
        refine l_aload_n 1089 dL_law_1088 rfl rfl ?_
        refine l_callVi (M2 := mX12_ways) [] 1092 oa68 cc12 mkX12_ways w_1672 dL_law_1089 rfl rfl (tX12_ways Θ l   _) (Nat.le_of_ble_eq_true rfl) (Nat.le_of_ble_eq_true rfl) (Nat.le_of_ble_eq_true rfl) (fun r288 s289 => ?_)
        refine l_icmp_eq 1477 1095 dL_law_1092 (by decide) rfl (fun c290 => ?_) (fun c290 => ?_)
        · refine l_iinc (v := x3 + 6) (ls' := [some (vR 950), some (vR 1), some (vR 68), some (vI (x3 + 6))]) 1480 dL_law_1477 rfl rfl rfl (by decide) rfl rfl ?_
          refine l_goto 18 dL_law_1480 (by decide) ?_
          refine l_sub (ls' := [some (vR 950), some (vR 1), some (vR 68), some (vI (x3 + 6))]) (And.intro rfl (And.intro rfl (And.intro rfl (And.intro rfl trivial)))) ?_
          exact ih (x3 + 6) s289
        · refine l_iconst (v := 0) 1096 dL_law_1095 rfl (by decide) ?_
          exact l_ret0
      refine l_ite (fun c291 => ?_) (fun c291 => ?_)
      · refine l_tabIn (v := 31) 1097 dL_law_33 c291 (by decide) (by decide) rfl (by decide) ?_
        refine l_aload_n 1098 dL_law_1097 rfl rfl ?_
        refine l_callVi (M2 := mX11_sure) [] 1101 oa1 cc11 mkX11_sure w_993 dL_law_1098 rfl rfl (tX11_sure Θ l   _) (Nat.le_of_ble_eq_true rfl) (Nat.le_of_ble_eq_true rfl) (Nat.le_of_ble_eq_true rfl) (fun r292 s293 => ?_)
        refine l_aload_n 1102 dL_law_1101 rfl rfl ?_
        refine l_callVi (M2 := mX12_sure) [] 1105 oa68 cc12 mkX12_sure w_1676 dL_law_1102 rfl rfl (tX12_sure Θ l   _) (Nat.le_of_ble_eq_true rfl) (Nat.le_of_ble_eq_true rfl) (Nat.le_of_ble_eq_true rfl) (fun r294 s295 => ?_)
        refine l_icmp_eq 1477 1108 dL_law_1105 (by decide) rfl (fun c296 => ?_) (fun c296 => ?_)
        · refine l_iinc (v := x3 + 6) (ls' := [some (vR 950), some (vR 1), some (vR 68), some (vI (x3 + 6))]) 1480 dL_law_1477 rfl rfl rfl (by decide) rfl rfl ?_
          refine l_goto 18 dL_law_1480 (by decide) ?_
          refine l_sub (ls' := [some (vR 950), some (vR 1), some (vR 68), some (vI (x3 + 6))]) (And.intro rfl (And.intro rfl (And.intro rfl (And.intro rfl trivial)))) ?_
          exact ih (x3 + 6) s295
        · refine l_iconst (v := 0) 1109 dL_law_1108 rfl (by decide) ?_
          exact l_ret0
      refine l_ite (fun c297 => ?_) (fun c297 => ?_)
      · refine l_tabIn (v := 32) 1110 dL_law_33 c297 (by decide) (by decide) rfl (by decide) ?_
        refine l_aload_n 1111 dL_law_1110 rfl rfl ?_
        refine l_aload_n 1112 dL_law_1111 rfl rfl ?_
        refine l_iload_n 1113 dL_law_1112 rfl rfl ?_
        refine l_iconst (v := 1) 1114 dL_law_1113 rfl (by decide) ?_
        refine l_iadd 1115 dL_law_1114 rfl ?_
        refine l_ialoadX 1116 dL_law_1115 rfl (fun b298 => ?_)
        refine l_callVi (M2 := mX11_where) [vI (xs (ix (x3 + 1)))] 1119 oa1 cc11 mkX11_where w_1001 dL_law_1116 rfl rfl (tX11_where Θ l _  _) (Nat.le_of_ble_eq_true rfl) (Nat.le_of_ble_eq_true rfl) (Nat.le_of_ble_eq_true rfl) (fun r299 s300 => ?_)
        refine l_aload_n 1120 dL_law_1119 rfl rfl ?_
        refine l_aload_n 1121 dL_law_1120 rfl rfl ?_
        refine l_iload_n 1122 dL_law_1121 rfl rfl ?_
        refine l_iconst (v := 1) 1123 dL_law_1122 rfl (by decide) ?_
        refine l_iadd 1124 dL_law_1123 rfl ?_
        refine l_ialoadX 1125 dL_law_1124 rfl (fun b301 => ?_)
        refine l_callVi (M2 := mX12_where) [vI (xs (ix (x3 + 1)))] 1128 oa68 cc12 mkX12_where w_1680 dL_law_1125 rfl rfl (tX12_where Θ l _  _) (Nat.le_of_ble_eq_true rfl) (Nat.le_of_ble_eq_true rfl) (Nat.le_of_ble_eq_true rfl) (fun r302 s303 => ?_)
        refine l_icmp_eq 1477 1131 dL_law_1128 (by decide) rfl (fun c304 => ?_) (fun c304 => ?_)
        · refine l_iinc (v := x3 + 6) (ls' := [some (vR 950), some (vR 1), some (vR 68), some (vI (x3 + 6))]) 1480 dL_law_1477 rfl rfl rfl (by decide) rfl rfl ?_
          refine l_goto 18 dL_law_1480 (by decide) ?_
          refine l_sub (ls' := [some (vR 950), some (vR 1), some (vR 68), some (vI (x3 + 6))]) (And.intro rfl (And.intro rfl (And.intro rfl (And.intro rfl trivial)))) ?_
          exact ih (x3 + 6) s303
        · refine l_iconst (v := 0) 1132 dL_law_1131 rfl (by decide) ?_
          exact l_ret0
      refine l_ite (fun c305 => ?_) (fun c305 => ?_)
      · refine l_tabIn (v := 33) 1133 dL_law_33 c305 (by decide) (by decide) rfl (by decide) ?_
        refine l_aload_n 1134 dL_law_1133 rfl rfl ?_
        refine l_callVi (M2 := mX11_aisle) [] 1137 oa1 cc11 mkX11_aisle w_1005 dL_law_1134 rfl rfl (tX11_aisle Θ l   _) (Nat.le_of_ble_eq_true rfl) (Nat.le_of_ble_eq_true rfl) (Nat.le_of_ble_eq_true rfl) (fun r306 s307 => ?_)
        refine l_aload_n 1138 dL_law_1137 rfl rfl ?_
        refine l_callVi (M2 := mX12_aisle) [] 1141 oa68 cc12 mkX12_aisle w_1684 dL_law_1138 rfl rfl (tX12_aisle Θ l   _) (Nat.le_of_ble_eq_true rfl) (Nat.le_of_ble_eq_true rfl) (Nat.le_of_ble_eq_true rfl) (fun r308 s309 => ?_)
        refine l_icmp_eq 1477 1144 dL_law_1141 (by decide) rfl (fun c310 => ?_) (fun c310 => ?_)
        · refine l_iinc (v := x3 + 6) (ls' := [some (vR 950), some (vR 1), some (vR 68), some (vI (x3 + 6))]) 1480 dL_law_1477 rfl rfl rfl (by decide) rfl rfl ?_
          refine l_goto 18 dL_law_1480 (by decide) ?_
          refine l_sub (ls' := [some (vR 950), some (vR 1), some (vR 68), some (vI (x3 + 6))]) (And.intro rfl (And.intro rfl (And.intro rfl (And.intro rfl trivial)))) ?_
          exact ih (x3 + 6) s309
        · refine l_iconst (v := 0) 1145 dL_law_1144 rfl (by decide) ?_
          exact l_ret0
      refine l_ite (fun c311 => ?_) (fun c311 => ?_)
      · refine l_tabIn (v := 34) 1146 dL_law_33 c311 (by decide) (by decide) rfl (by decide) ?_
        refine l_aload_n 1147 dL_law_1146 rfl rfl ?_
        refine l_aload_n 1148 dL_law_1147 rfl rfl ?_
        refine l_iload_n 1149 dL_law_1148 rfl rfl ?_
        refine l_iconst (v := 1) 1150 dL_law_1149 rfl (by decide) ?_
        refine l_iadd 1151 dL_law_1150 rfl ?_
        refine l_ialoadX 1152 dL_law_1151 rfl (fun b312 => ?_)
        refine l_callVi (M2 := mX11_leave) [vI (xs (ix (x3 + 1)))] 1155 oa1 cc11 mkX11_leave w_1009 dL_law_1152 rfl rfl (tX11_leave Θ l _  _) (Nat.le_of_ble_eq_true rfl) (Nat.le_of_ble_eq_true rfl) (Nat.le_of_ble_eq_true rfl) (fun r313 s314 => ?_)
        refine l_aload_n 1156 dL_law_1155 rfl rfl ?_
        refine l_aload_n 1157 dL_law_1156 rfl rfl ?_
        refine l_iload_n 1158 dL_law_1157 rfl rfl ?_
        refine l_iconst (v := 1) 1159 dL_law_1158 rfl (by decide) ?_
        refine l_iadd 1160 dL_law_1159 rfl ?_
        refine l_ialoadX 1161 dL_law_1160 rfl (fun b315 => ?_)
        refine l_callVi (M2 := mX12_leave) [vI (xs (ix (x3 + 1)))] 1164 oa68 cc12 mkX12_leave w_1688 dL_law_1161 rfl rfl (tX12_leave Θ l _  _) (Nat.le_of_ble_eq_true rfl) (Nat.le_of_ble_eq_true rfl) (Nat.le_of_ble_eq_true rfl) (fun r316 s317 => ?_)
        refine l_icmp_eq 1477 1167 dL_law_1164 (by decide) rfl (fun c318 => ?_) (fun c318 => ?_)
        · refine l_iinc (v := x3 + 6) (ls' := [some (vR 950), some (vR 1), some (vR 68), some (vI (x3 + 6))]) 1480 dL_law_1477 rfl rfl rfl (by decide) rfl rfl ?_
          refine l_goto 18 dL_law_1480 (by decide) ?_
          refine l_sub (ls' := [some (vR 950), some (vR 1), some (vR 68), some (vI (x3 + 6))]) (And.intro rfl (And.intro rfl (And.intro rfl (And.intro rfl trivial)))) ?_
          exact ih (x3 + 6) s317
        · refine l_iconst (v := 0) 1168 dL_law_1167 rfl (by decide) ?_
          exact l_ret0
      refine l_ite (fun c319 => ?_) (fun c319 => ?_)
      · refine l_tabIn (v := 35) 1169 dL_law_33 c319 (by decide) (by decide) rfl (by decide) ?_
        refine l_aload_n 1170 dL_law_1169 rfl rfl ?_
        refine l_callVi (M2 := mX11_leavers) [] 1173 oa1 cc11 mkX11_leavers w_1044 dL_law_1170 rfl rfl (tX11_leavers Θ l   _) (Nat.le_of_ble_eq_true rfl) (Nat.le_of_ble_eq_true rfl) (Nat.le_of_ble_eq_true rfl) (fun r320 s321 => ?_)
        refine l_aload_n 1174 dL_law_1173 rfl rfl ?_
        refine l_callVi (M2 := mX12_leavers) [] 1177 oa68 cc12 mkX12_leavers w_1704 dL_law_1174 rfl rfl (tX12_leavers Θ l   _) (Nat.le_of_ble_eq_true rfl) (Nat.le_of_ble_eq_true rfl) (Nat.le_of_ble_eq_true rfl) (fun r322 s323 => ?_)
        refine l_icmp_eq 1477 1180 dL_law_1177 (by decide) rfl (fun c324 => ?_) (fun c324 => ?_)
        · refine l_iinc (v := x3 + 6) (ls' := [some (vR 950), some (vR 1), some (vR 68), some (vI (x3 + 6))]) 1480 dL_law_1477 rfl rfl rfl (by decide) rfl rfl ?_
          refine l_goto 18 dL_law_1480 (by decide) ?_
          refine l_sub (ls' := [some (vR 950), some (vR 1), some (vR 68), some (vI (x3 + 6))]) (And.intro rfl (And.intro rfl (And.intro rfl (And.intro rfl trivial)))) ?_
          exact ih (x3 + 6) s323
        · refine l_iconst (v := 0) 1181 dL_law_1180 rfl (by decide) ?_
          exact l_ret0
      refine l_ite (fun c325 => ?_) (fun c325 => ?_)
      · refine l_tabIn (v := 36) 1182 dL_law_33 c325 (by decide) (by decide) rfl (by decide) ?_
        refine l_aload_n 1183 dL_law_1182 rfl rfl ?_
        refine l_aload_n 1184 dL_law_1183 rfl rfl ?_
        refine l_iload_n 1185 dL_law_1184 rfl rfl ?_
        refine l_iconst (v := 1) 1186 dL_law_1185 rfl (by decide) ?_
        refine l_iadd 1187 dL_law_1186 rfl ?_
        refine l_ialoadX 1188 dL_law_1187 rfl (fun b326 => ?_)
        refine l_aload_n 1189 dL_law_1188 rfl rfl ?_
        refine l_iload_n 1190 dL_law_1189 rfl rfl ?_
        refine l_iconst (v := 2) 1191 dL_law_1190 rfl (by decide) ?_
        refine l_iadd 1192 dL_law_1191 rfl ?_
        refine l_ialoadX 1193 dL_law_1192 rfl (fun b327 => ?_)
        refine l_aload_n 1194 dL_law_1193 rfl rfl ?_
        refine l_iload_n 1195 dL_law_1194 rfl rfl ?_
        refine l_iconst (v := 3) 1196 dL_law_1195 rfl (by decide) ?_
        refine l_iadd 1197 dL_law_1196 rfl ?_
        refine l_ialoadX 1198 dL_law_1197 rfl (fun b328 => ?_)
        refine l_callVi (M2 := mX11_invite) [vI (xs (ix (x3 + 1))), vI (xs (ix (x3 + 2))), vI (xs (ix (x3 + 3)))] 1201 oa1 cc11 mkX11_invite w_1056 dL_law_1198 rfl rfl (tX11_invite Θ l _ _ _  _) (Nat.le_of_ble_eq_true rfl) (Nat.le_of_ble_eq_true rfl) (Nat.le_of_ble_eq_true rfl) (fun r329 s330 => ?_)
        refine l_aload_n 1202 dL_law_1201 rfl rfl ?_
        refine l_aload_n 1203 dL_law_1202 rfl rfl ?_
        refine l_iload_n 1204 dL_law_1203 rfl rfl ?_
        refine l_iconst (v := 1) 1205 dL_law_1204 rfl (by decide) ?_
        refine l_iadd 1206 dL_law_1205 rfl ?_
        refine l_ialoadX 1207 dL_law_1206 rfl (fun b331 => ?_)
        refine l_aload_n 1208 dL_law_1207 rfl rfl ?_
        refine l_iload_n 1209 dL_law_1208 rfl rfl ?_
        refine l_iconst (v := 2) 1210 dL_law_1209 rfl (by decide) ?_
        refine l_iadd 1211 dL_law_1210 rfl ?_
        refine l_ialoadX 1212 dL_law_1211 rfl (fun b332 => ?_)
        refine l_aload_n 1213 dL_law_1212 rfl rfl ?_
        refine l_iload_n 1214 dL_law_1213 rfl rfl ?_
        refine l_iconst (v := 3) 1215 dL_law_1214 rfl (by decide) ?_
        refine l_iadd 1216 dL_law_1215 rfl ?_
        refine l_ialoadX 1217 dL_law_1216 rfl (fun b333 => ?_)
        refine l_callVi (M2 := mX12_invite) [vI (xs (ix (x3 + 1))), vI (xs (ix (x3 + 2))), vI (xs (ix (x3 + 3)))] 1220 oa68 cc12 mkX12_invite w_1708 dL_law_1217 rfl rfl (tX12_invite Θ l _ _ _  _) (Nat.le_of_ble_eq_true rfl) (Nat.le_of_ble_eq_true rfl) (Nat.le_of_ble_eq_true rfl) (fun r334 s335 => ?_)
        refine l_icmp_eq 1477 1223 dL_law_1220 (by decide) rfl (fun c336 => ?_) (fun c336 => ?_)
        · refine l_iinc (v := x3 + 6) (ls' := [some (vR 950), some (vR 1), some (vR 68), some (vI (x3 + 6))]) 1480 dL_law_1477 rfl rfl rfl (by decide) rfl rfl ?_
          refine l_goto 18 dL_law_1480 (by decide) ?_
          refine l_sub (ls' := [some (vR 950), some (vR 1), some (vR 68), some (vI (x3 + 6))]) (And.intro rfl (And.intro rfl (And.intro rfl (And.intro rfl trivial)))) ?_
          exact ih (x3 + 6) s335
        · refine l_iconst (v := 0) 1224 dL_law_1223 rfl (by decide) ?_
          exact l_ret0
      refine l_ite (fun c337 => ?_) (fun c337 => ?_)
      · refine l_tabIn (v := 37) 1225 dL_law_33 c337 (by decide) (by decide) rfl (by decide) ?_
        refine l_aload_n 1226 dL_law_1225 rfl rfl ?_
        refine l_aload_n 1227 dL_law_1226 rfl rfl ?_
        refine l_iload_n 1228 dL_law_1227 rfl rfl ?_
        refine l_iconst (v := 1) 1229 dL_law_1228 rfl (by decide) ?_
        refine l_iadd 1230 dL_law_1229 rfl ?_
        refine l_ialoadX 1231 dL_law_1230 rfl (fun b338 => ?_)
        refine l_aload_n 1232 dL_law_1231 rfl rfl ?_
        refine l_iload_n 1233 dL_law_1232 rfl rfl ?_
        refine l_iconst (v := 2) 1234 dL_law_1233 rfl (by decide) ?_
        refine l_iadd 1235 dL_law_1234 rfl ?_
        refine l_ialoadX 1236 dL_law_1235 rfl (fun b339 => ?_)
        refine l_callVi (M2 := mX11_far) [vI (xs (ix (x3 + 1))), vI (xs (ix (x3 + 2)))] 1239 oa1 cc11 mkX11_far w_1087 dL_law_1236 rfl rfl (tX11_far Θ l _ _  _) (Nat.le_of_ble_eq_true rfl) (Nat.le_of_ble_eq_true rfl) (Nat.le_of_ble_eq_true rfl) (fun r340 s341 => ?_)
        refine l_aload_n 1240 dL_law_1239 rfl rfl ?_
        refine l_aload_n 1241 dL_law_1240 rfl rfl ?_
        refine l_iload_n 1242 dL_law_1241 rfl rfl ?_
        refine l_iconst (v := 1) 1243 dL_law_1242 rfl (by decide) ?_
        refine l_iadd 1244 dL_law_1243 rfl ?_
        refine l_ialoadX 1245 dL_law_1244 rfl (fun b342 => ?_)
        refine l_aload_n 1246 dL_law_1245 rfl rfl ?_
        refine l_iload_n 1247 dL_law_1246 rfl rfl ?_
        refine l_iconst (v := 2) 1248 dL_law_1247 rfl (by decide) ?_
        refine l_iadd 1249 dL_law_1248 rfl ?_
        refine l_ialoadX 1250 dL_law_1249 rfl (fun b343 => ?_)
        refine l_callVi (M2 := mX12_far) [vI (xs (ix (x3 + 1))), vI (xs (ix (x3 + 2)))] 1253 oa68 cc12 mkX12_far w_1720 dL_law_1250 rfl rfl (tX12_far Θ l _ _  _) (Nat.le_of_ble_eq_true rfl) (Nat.le_of_ble_eq_true rfl) (Nat.le_of_ble_eq_true rfl) (fun r344 s345 => ?_)
        refine l_icmp_eq 1477 1256 dL_law_1253 (by decide) rfl (fun c346 => ?_) (fun c346 => ?_)
        · refine l_iinc (v := x3 + 6) (ls' := [some (vR 950), some (vR 1), some (vR 68), some (vI (x3 + 6))]) 1480 dL_law_1477 rfl rfl rfl (by decide) rfl rfl ?_
          refine l_goto 18 dL_law_1480 (by decide) ?_
          refine l_sub (ls' := [some (vR 950), some (vR 1), some (vR 68), some (vI (x3 + 6))]) (And.intro rfl (And.intro rfl (And.intro rfl (And.intro rfl trivial)))) ?_
          exact ih (x3 + 6) s345
        · refine l_iconst (v := 0) 1257 dL_law_1256 rfl (by decide) ?_
          exact l_ret0
      refine l_ite (fun c347 => ?_) (fun c347 => ?_)
      · refine l_tabIn (v := 38) 1258 dL_law_33 c347 (by decide) (by decide) rfl (by decide) ?_
        refine l_aload_n 1259 dL_law_1258 rfl rfl ?_
        refine l_callVi (M2 := mX11_crossed) [] 1262 oa1 cc11 mkX11_crossed w_1091 dL_law_1259 rfl rfl (tX11_crossed Θ l   _) (Nat.le_of_ble_eq_true rfl) (Nat.le_of_ble_eq_true rfl) (Nat.le_of_ble_eq_true rfl) (fun r348 s349 => ?_)
        refine l_aload_n 1263 dL_law_1262 rfl rfl ?_
        refine l_callVi (M2 := mX12_crossed) [] 1266 oa68 cc12 mkX12_crossed w_1724 dL_law_1263 rfl rfl (tX12_crossed Θ l   _) (Nat.le_of_ble_eq_true rfl) (Nat.le_of_ble_eq_true rfl) (Nat.le_of_ble_eq_true rfl) (fun r350 s351 => ?_)
        refine l_icmp_eq 1477 1269 dL_law_1266 (by decide) rfl (fun c352 => ?_) (fun c352 => ?_)
        · refine l_iinc (v := x3 + 6) (ls' := [some (vR 950), some (vR 1), some (vR 68), some (vI (x3 + 6))]) 1480 dL_law_1477 rfl rfl rfl (by decide) rfl rfl ?_
          refine l_goto 18 dL_law_1480 (by decide) ?_
          refine l_sub (ls' := [some (vR 950), some (vR 1), some (vR 68), some (vI (x3 + 6))]) (And.intro rfl (And.intro rfl (And.intro rfl (And.intro rfl trivial)))) ?_
          exact ih (x3 + 6) s351
        · refine l_iconst (v := 0) 1270 dL_law_1269 rfl (by decide) ?_
          exact l_ret0
      refine l_ite (fun c353 => ?_) (fun c353 => ?_)
      · refine l_tabIn (v := 39) 1271 dL_law_33 c353 (by decide) (by decide) rfl (by decide) ?_
        refine l_aload_n 1272 dL_law_1271 rfl rfl ?_
        refine l_callVi (M2 := mX11_divorce) [] 1275 oa1 cc11 mkX11_divorce w_1103 dL_law_1272 rfl rfl (tX11_divorce Θ l   _) (Nat.le_of_ble_eq_true rfl) (Nat.le_of_ble_eq_true rfl) (Nat.le_of_ble_eq_true rfl) (fun r354 s355 => ?_)
        refine l_aload_n 1276 dL_law_1275 rfl rfl ?_
        refine l_callVi (M2 := mX12_divorce) [] 1279 oa68 cc12 mkX12_divorce w_1728 dL_law_1276 rfl rfl (tX12_divorce Θ l   _) (Nat.le_of_ble_eq_true rfl) (Nat.le_of_ble_eq_true rfl) (Nat.le_of_ble_eq_true rfl) (fun r356 s357 => ?_)
        refine l_icmp_eq 1477 1282 dL_law_1279 (by decide) rfl (fun c358 => ?_) (fun c358 => ?_)
        · refine l_iinc (v := x3 + 6) (ls' := [some (vR 950), some (vR 1), some (vR 68), some (vI (x3 + 6))]) 1480 dL_law_1477 rfl rfl rfl (by decide) rfl rfl ?_
          refine l_goto 18 dL_law_1480 (by decide) ?_
          refine l_sub (ls' := [some (vR 950), some (vR 1), some (vR 68), some (vI (x3 + 6))]) (And.intro rfl (And.intro rfl (And.intro rfl (And.intro rfl trivial)))) ?_
          exact ih (x3 + 6) s357
        · refine l_iconst (v := 0) 1283 dL_law_1282 rfl (by decide) ?_
          exact l_ret0
      refine l_ite (fun c359 => ?_) (fun c359 => ?_)
      · refine l_tabIn (v := 40) 1284 dL_law_33 c359 (by decide) (by decide) rfl (by decide) ?_
        refine l_aload_n 1285 dL_law_1284 rfl rfl ?_
        refine l_aload_n 1286 dL_law_1285 rfl rfl ?_
        refine l_iload_n 1287 dL_law_1286 rfl rfl ?_
        refine l_iconst (v := 1) 1288 dL_law_1287 rfl (by decide) ?_
        refine l_iadd 1289 dL_law_1288 rfl ?_
        refine l_ialoadX 1290 dL_law_1289 rfl (fun b360 => ?_)
        refine l_callVi (M2 := mX11_kin) [vI (xs (ix (x3 + 1)))] 1293 oa1 cc11 mkX11_kin w_1111 dL_law_1290 rfl rfl (tX11_kin Θ l _  _) (Nat.le_of_ble_eq_true rfl) (Nat.le_of_ble_eq_true rfl) (Nat.le_of_ble_eq_true rfl) (fun r361 s362 => ?_)
        refine l_aload_n 1294 dL_law_1293 rfl rfl ?_
        refine l_aload_n 1295 dL_law_1294 rfl rfl ?_
        refine l_iload_n 1296 dL_law_1295 rfl rfl ?_
        refine l_iconst (v := 1) 1297 dL_law_1296 rfl (by decide) ?_
        refine l_iadd 1298 dL_law_1297 rfl ?_
        refine l_ialoadX 1299 dL_law_1298 rfl (fun b363 => ?_)
        refine l_callVi (M2 := mX12_kin) [vI (xs (ix (x3 + 1)))] 1302 oa68 cc12 mkX12_kin w_1743 dL_law_1299 rfl rfl (tX12_kin Θ l _  _) (Nat.le_of_ble_eq_true rfl) (Nat.le_of_ble_eq_true rfl) (Nat.le_of_ble_eq_true rfl) (fun r364 s365 => ?_)
        refine l_icmp_eq 1477 1305 dL_law_1302 (by decide) rfl (fun c366 => ?_) (fun c366 => ?_)
        · refine l_iinc (v := x3 + 6) (ls' := [some (vR 950), some (vR 1), some (vR 68), some (vI (x3 + 6))]) 1480 dL_law_1477 rfl rfl rfl (by decide) rfl rfl ?_
          refine l_goto 18 dL_law_1480 (by decide) ?_
          refine l_sub (ls' := [some (vR 950), some (vR 1), some (vR 68), some (vI (x3 + 6))]) (And.intro rfl (And.intro rfl (And.intro rfl (And.intro rfl trivial)))) ?_
          exact ih (x3 + 6) s365
        · refine l_iconst (v := 0) 1306 dL_law_1305 rfl (by decide) ?_
          exact l_ret0
      refine l_ite (fun c367 => ?_) (fun c367 => ?_)
      · refine l_tabIn (v := 41) 1307 dL_law_33 c367 (by decide) (by decide) rfl (by decide) ?_
        refine l_aload_n 1308 dL_law_1307 rfl rfl ?_
        refine l_aload_n 1309 dL_law_1308 rfl rfl ?_
        refine l_iload_n 1310 dL_law_1309 rfl rfl ?_
        refine l_iconst (v := 1) 1311 dL_law_1310 rfl (by decide) ?_
        refine l_iadd 1312 dL_law_1311 rfl ?_
        refine l_ialoadX 1313 dL_law_1312 rfl (fun b368 => ?_)
        refine l_aload_n 1314 dL_law_1313 rfl rfl ?_
        refine l_iload_n 1315 dL_law_1314 rfl rfl ?_
        refine l_iconst (v := 2) 1316 dL_law_1315 rfl (by decide) ?_
        refine l_iadd 1317 dL_law_1316 rfl ?_
        refine l_ialoadX 1318 dL_law_1317 rfl (fun b369 => ?_)
        refine l_callVi (M2 := mX11_odds) [vI (xs (ix (x3 + 1))), vI (xs (ix (x3 + 2)))] 1321 oa1 cc11 mkX11_odds w_1115 dL_law_1318 rfl rfl (tX11_odds Θ l _ _  _) (Nat.le_of_ble_eq_true rfl) (Nat.le_of_ble_eq_true rfl) (Nat.le_of_ble_eq_true rfl) (fun r370 s371 => ?_)
        refine l_aload_n 1322 dL_law_1321 rfl rfl ?_
        refine l_aload_n 1323 dL_law_1322 rfl rfl ?_
        refine l_iload_n 1324 dL_law_1323 rfl rfl ?_
        refine l_iconst (v := 1) 1325 dL_law_1324 rfl (by decide) ?_
        refine l_iadd 1326 dL_law_1325 rfl ?_
        refine l_ialoadX 1327 dL_law_1326 rfl (fun b372 => ?_)
        refine l_aload_n 1328 dL_law_1327 rfl rfl ?_
        refine l_iload_n 1329 dL_law_1328 rfl rfl ?_
        refine l_iconst (v := 2) 1330 dL_law_1329 rfl (by decide) ?_
        refine l_iadd 1331 dL_law_1330 rfl ?_
        refine l_ialoadX 1332 dL_law_1331 rfl (fun b373 => ?_)
        refine l_callVi (M2 := mX12_odds) [vI (xs (ix (x3 + 1))), vI (xs (ix (x3 + 2)))] 1335 oa68 cc12 mkX12_odds w_1747 dL_law_1332 rfl rfl (tX12_odds Θ l _ _  _) (Nat.le_of_ble_eq_true rfl) (Nat.le_of_ble_eq_true rfl) (Nat.le_of_ble_eq_true rfl) (fun r374 s375 => ?_)
        refine l_icmp_eq 1477 1338 dL_law_1335 (by decide) rfl (fun c376 => ?_) (fun c376 => ?_)
        · refine l_iinc (v := x3 + 6) (ls' := [some (vR 950), some (vR 1), some (vR 68), some (vI (x3 + 6))]) 1480 dL_law_1477 rfl rfl rfl (by decide) rfl rfl ?_
          refine l_goto 18 dL_law_1480 (by decide) ?_
          refine l_sub (ls' := [some (vR 950), some (vR 1), some (vR 68), some (vI (x3 + 6))]) (And.intro rfl (And.intro rfl (And.intro rfl (And.intro rfl trivial)))) ?_
          exact ih (x3 + 6) s375
        · refine l_iconst (v := 0) 1339 dL_law_1338 rfl (by decide) ?_
          exact l_ret0
      refine l_ite (fun c377 => ?_) (fun c377 => ?_)
      · refine l_tabIn (v := 42) 1340 dL_law_33 c377 (by decide) (by decide) rfl (by decide) ?_
        refine l_aload_n 1341 dL_law_1340 rfl rfl ?_
        refine l_aload_n 1342 dL_law_1341 rfl rfl ?_
        refine l_iload_n 1343 dL_law_1342 rfl rfl ?_
        refine l_iconst (v := 1) 1344 dL_law_1343 rfl (by decide) ?_
        refine l_iadd 1345 dL_law_1344 rfl ?_
        refine l_ialoadX 1346 dL_law_1345 rfl (fun b378 => ?_)
        refine l_callVi (M2 := mX11_storm) [vI (xs (ix (x3 + 1)))] 1349 oa1 cc11 mkX11_storm w_1120 dL_law_1346 rfl rfl (tX11_storm Θ l _  _) (Nat.le_of_ble_eq_true rfl) (Nat.le_of_ble_eq_true rfl) (Nat.le_of_ble_eq_true rfl) (fun r379 s380 => ?_)
        refine l_aload_n 1350 dL_law_1349 rfl rfl ?_
        refine l_aload_n 1351 dL_law_1350 rfl rfl ?_
        refine l_iload_n 1352 dL_law_1351 rfl rfl ?_
        refine l_iconst (v := 1) 1353 dL_law_1352 rfl (by decide) ?_
        refine l_iadd 1354 dL_law_1353 rfl ?_
        refine l_ialoadX 1355 dL_law_1354 rfl (fun b381 => ?_)
        refine l_callVi (M2 := mX12_storm) [vI (xs (ix (x3 + 1)))] 1358 oa68 cc12 mkX12_storm w_1751 dL_law_1355 rfl rfl (tX12_storm Θ l _  _) (Nat.le_of_ble_eq_true rfl) (Nat.le_of_ble_eq_true rfl) (Nat.le_of_ble_eq_true rfl) (fun r382 s383 => ?_)
        refine l_icmp_eq 1477 1361 dL_law_1358 (by decide) rfl (fun c384 => ?_) (fun c384 => ?_)
        · refine l_iinc (v := x3 + 6) (ls' := [some (vR 950), some (vR 1), some (vR 68), some (vI (x3 + 6))]) 1480 dL_law_1477 rfl rfl rfl (by decide) rfl rfl ?_
          refine l_goto 18 dL_law_1480 (by decide) ?_
          refine l_sub (ls' := [some (vR 950), some (vR 1), some (vR 68), some (vI (x3 + 6))]) (And.intro rfl (And.intro rfl (And.intro rfl (And.intro rfl trivial)))) ?_
          exact ih (x3 + 6) s383
        · refine l_iconst (v := 0) 1362 dL_law_1361 rfl (by decide) ?_
          exact l_ret0
      refine l_ite (fun c385 => ?_) (fun c385 => ?_)
      · refine l_tabIn (v := 43) 1363 dL_law_33 c385 (by decide) (by decide) rfl (by decide) ?_
        refine l_aload_n 1364 dL_law_1363 rfl rfl ?_
        refine l_callVi (M2 := mX11_asked) [] 1367 oa1 cc11 mkX11_asked w_1130 dL_law_1364 rfl rfl (tX11_asked Θ l   _) (Nat.le_of_ble_eq_true rfl) (Nat.le_of_ble_eq_true rfl) (Nat.le_of_ble_eq_true rfl) (fun r386 s387 => ?_)
        refine l_aload_n 1368 dL_law_1367 rfl rfl ?_
        refine l_callVi (M2 := mX12_asked) [] 1371 oa68 cc12 mkX12_asked w_1383 dL_law_1368 rfl rfl (tX12_asked Θ l   _) (Nat.le_of_ble_eq_true rfl) (Nat.le_of_ble_eq_true rfl) (Nat.le_of_ble_eq_true rfl) (fun r388 s389 => ?_)
        refine l_icmp_eq 1477 1374 dL_law_1371 (by decide) rfl (fun c390 => ?_) (fun c390 => ?_)
        · refine l_iinc (v := x3 + 6) (ls' := [some (vR 950), some (vR 1), some (vR 68), some (vI (x3 + 6))]) 1480 dL_law_1477 rfl rfl rfl (by decide) rfl rfl ?_
          refine l_goto 18 dL_law_1480 (by decide) ?_
          refine l_sub (ls' := [some (vR 950), some (vR 1), some (vR 68), some (vI (x3 + 6))]) (And.intro rfl (And.intro rfl (And.intro rfl (And.intro rfl trivial)))) ?_
          exact ih (x3 + 6) s389
        · refine l_iconst (v := 0) 1375 dL_law_1374 rfl (by decide) ?_
          exact l_ret0
      refine l_ite (fun c391 => ?_) (fun c391 => ?_)
      · refine l_tabIn (v := 44) 1376 dL_law_33 c391 (by decide) (by decide) rfl (by decide) ?_
        refine l_aload_n 1377 dL_law_1376 rfl rfl ?_
        refine l_callVl (M2 := mX11_upper) [] 1380 oa1 cc11 mkX11_upper w_1134 dL_law_1377 rfl rfl (tX11_upper Θ l   _) (Nat.le_of_ble_eq_true rfl) (Nat.le_of_ble_eq_true rfl) (Nat.le_of_ble_eq_true rfl) (fun r392 s393 => ?_)
        refine l_aload_n 1381 dL_law_1380 rfl rfl ?_
        refine l_callVl (M2 := mX12_upper) [] 1384 oa68 cc12 mkX12_upper w_1387 dL_law_1381 rfl rfl (tX12_upper Θ l   _) (Nat.le_of_ble_eq_true rfl) (Nat.le_of_ble_eq_true rfl) (Nat.le_of_ble_eq_true rfl) (fun r394 s395 => ?_)
        refine l_lcmp 1385 dL_law_1384 rfl ?_
        refine l_if_eq 1477 1388 dL_law_1385 (by decide) rfl (fun c396 => ?_) (fun c396 => ?_)
        · refine l_iinc (v := x3 + 6) (ls' := [some (vR 950), some (vR 1), some (vR 68), some (vI (x3 + 6))]) 1480 dL_law_1477 rfl rfl rfl (by decide) rfl rfl ?_
          refine l_goto 18 dL_law_1480 (by decide) ?_
          refine l_sub (ls' := [some (vR 950), some (vR 1), some (vR 68), some (vI (x3 + 6))]) (And.intro rfl (And.intro rfl (And.intro rfl (And.intro rfl trivial)))) ?_
          exact ih (x3 + 6) s395
        · refine l_iconst (v := 0) 1389 dL_law_1388 rfl (by decide) ?_
          exact l_ret0
      refine l_ite (fun c397 => ?_) (fun c397 => ?_)
      · refine l_tabIn (v := 45) 1390 dL_law_33 c397 (by decide) (by decide) rfl (by decide) ?_
        refine l_aload_n 1391 dL_law_1390 rfl rfl ?_
        refine l_callVl (M2 := mX11_lower) [] 1394 oa1 cc11 mkX11_lower w_1138 dL_law_1391 rfl rfl (tX11_lower Θ l   _) (Nat.le_of_ble_eq_true rfl) (Nat.le_of_ble_eq_true rfl) (Nat.le_of_ble_eq_true rfl) (fun r398 s399 => ?_)
        refine l_aload_n 1395 dL_law_1394 rfl rfl ?_
        refine l_callVl (M2 := mX12_lower) [] 1398 oa68 cc12 mkX12_lower w_1391 dL_law_1395 rfl rfl (tX12_lower Θ l   _) (Nat.le_of_ble_eq_true rfl) (Nat.le_of_ble_eq_true rfl) (Nat.le_of_ble_eq_true rfl) (fun r400 s401 => ?_)
        refine l_lcmp 1399 dL_law_1398 rfl ?_
        refine l_if_eq 1477 1402 dL_law_1399 (by decide) rfl (fun c402 => ?_) (fun c402 => ?_)
        · refine l_iinc (v := x3 + 6) (ls' := [some (vR 950), some (vR 1), some (vR 68), some (vI (x3 + 6))]) 1480 dL_law_1477 rfl rfl rfl (by decide) rfl rfl ?_
          refine l_goto 18 dL_law_1480 (by decide) ?_
          refine l_sub (ls' := [some (vR 950), some (vR 1), some (vR 68), some (vI (x3 + 6))]) (And.intro rfl (And.intro rfl (And.intro rfl (And.intro rfl trivial)))) ?_
          exact ih (x3 + 6) s401
        · refine l_iconst (v := 0) 1403 dL_law_1402 rfl (by decide) ?_
          exact l_ret0
      refine l_ite (fun c403 => ?_) (fun c403 => ?_)
      · refine l_tabIn (v := 46) 1404 dL_law_33 c403 (by decide) (by decide) rfl (by decide) ?_
        refine l_aload_n 1405 dL_law_1404 rfl rfl ?_
        refine l_aload_n 1406 dL_law_1405 rfl rfl ?_
        refine l_iload_n 1407 dL_law_1406 rfl rfl ?_
        refine l_iconst (v := 1) 1408 dL_law_1407 rfl (by decide) ?_
        refine l_iadd 1409 dL_law_1408 rfl ?_
        refine l_ialoadX 1410 dL_law_1409 rfl (fun b404 => ?_)
        refine l_callVi (M2 := mX11_count) [vI (xs (ix (x3 + 1)))] 1413 oa1 cc11 mkX11_count w_1142 dL_law_1410 rfl rfl (tX11_count Θ l _  _) (Nat.le_of_ble_eq_true rfl) (Nat.le_of_ble_eq_true rfl) (Nat.le_of_ble_eq_true rfl) (fun r405 s406 => ?_)
        refine l_aload_n 1414 dL_law_1413 rfl rfl ?_
        refine l_aload_n 1415 dL_law_1414 rfl rfl ?_
        refine l_iload_n 1416 dL_law_1415 rfl rfl ?_
        refine l_iconst (v := 1) 1417 dL_law_1416 rfl (by decide) ?_
        refine l_iadd 1418 dL_law_1417 rfl ?_
        refine l_ialoadX 1419 dL_law_1418 rfl (fun b407 => ?_)
        refine l_callVi (M2 := mX12_count) [vI (xs (ix (x3 + 1)))] 1422 oa68 cc12 mkX12_count w_1759 dL_law_1419 rfl rfl (tX12_count Θ l _  _) (Nat.le_of_ble_eq_true rfl) (Nat.le_of_ble_eq_true rfl) (Nat.le_of_ble_eq_true rfl) (fun r408 s409 => ?_)
        refine l_icmp_eq 1477 1425 dL_law_1422 (by decide) rfl (fun c410 => ?_) (fun c410 => ?_)
        · refine l_iinc (v := x3 + 6) (ls' := [some (vR 950), some (vR 1), some (vR 68), some (vI (x3 + 6))]) 1480 dL_law_1477 rfl rfl rfl (by decide) rfl rfl ?_
          refine l_goto 18 dL_law_1480 (by decide) ?_
          refine l_sub (ls' := [some (vR 950), some (vR 1), some (vR 68), some (vI (x3 + 6))]) (And.intro rfl (And.intro rfl (And.intro rfl (And.intro rfl trivial)))) ?_
          exact ih (x3 + 6) s409
        · refine l_iconst (v := 0) 1426 dL_law_1425 rfl (by decide) ?_
          exact l_ret0
      refine l_ite (fun c411 => ?_) (fun c411 => ?_)
      · refine l_tabIn (v := 47) 1427 dL_law_33 c411 (by decide) (by decide) rfl (by decide) ?_
        refine l_aload_n 1428 dL_law_1427 rfl rfl ?_
        refine l_callVi (M2 := mX11_finding) [] 1431 oa1 cc11 mkX11_finding w_1163 dL_law_1428 rfl rfl (tX11_finding Θ l   _) (Nat.le_of_ble_eq_true rfl) (Nat.le_of_ble_eq_true rfl) (Nat.le_of_ble_eq_true rfl) (fun r412 s413 => ?_)
        refine l_aload_n 1432 dL_law_1431 rfl rfl ?_
        refine l_callVi (M2 := mX12_finding) [] 1435 oa68 cc12 mkX12_finding w_1372 dL_law_1432 rfl rfl (tX12_finding Θ l   _) (Nat.le_of_ble_eq_true rfl) (Nat.le_of_ble_eq_true rfl) (Nat.le_of_ble_eq_true rfl) (fun r414 s415 => ?_)
        refine l_icmp_eq 1477 1438 dL_law_1435 (by decide) rfl (fun c416 => ?_) (fun c416 => ?_)
        · refine l_iinc (v := x3 + 6) (ls' := [some (vR 950), some (vR 1), some (vR 68), some (vI (x3 + 6))]) 1480 dL_law_1477 rfl rfl rfl (by decide) rfl rfl ?_
          refine l_goto 18 dL_law_1480 (by decide) ?_
          refine l_sub (ls' := [some (vR 950), some (vR 1), some (vR 68), some (vI (x3 + 6))]) (And.intro rfl (And.intro rfl (And.intro rfl (And.intro rfl trivial)))) ?_
          exact ih (x3 + 6) s415
        · refine l_iconst (v := 0) 1439 dL_law_1438 rfl (by decide) ?_
          exact l_ret0
      refine l_ite (fun c417 => ?_) (fun c417 => ?_)
      · refine l_tabIn (v := 48) 1440 dL_law_33 c417 (by decide) (by decide) rfl (by decide) ?_
        refine l_aload_n 1441 dL_law_1440 rfl rfl ?_
        refine l_aload_n 1442 dL_law_1441 rfl rfl ?_
        refine l_iload_n 1443 dL_law_1442 rfl rfl ?_
        refine l_iconst (v := 1) 1444 dL_law_1443 rfl (by decide) ?_
        refine l_iadd 1445 dL_law_1444 rfl ?_
        refine l_ialoadX 1446 dL_law_1445 rfl (fun b418 => ?_)
        refine l_callVi (M2 := mX11_findings) [vI (xs (ix (x3 + 1)))] 1449 oa1 cc11 mkX11_findings w_1167 dL_law_1446 rfl rfl (tX11_findings Θ l _  _) (Nat.le_of_ble_eq_true rfl) (Nat.le_of_ble_eq_true rfl) (Nat.le_of_ble_eq_true rfl) (fun r419 s420 => ?_)
        refine l_aload_n 1450 dL_law_1449 rfl rfl ?_
        refine l_aload_n 1451 dL_law_1450 rfl rfl ?_
        refine l_iload_n 1452 dL_law_1451 rfl rfl ?_
        refine l_iconst (v := 1) 1453 dL_law_1452 rfl (by decide) ?_
        refine l_iadd 1454 dL_law_1453 rfl ?_
        refine l_ialoadX 1455 dL_law_1454 rfl (fun b421 => ?_)
        refine l_callVi (M2 := mX12_findings) [vI (xs (ix (x3 + 1)))] 1458 oa68 cc12 mkX12_findings w_1376 dL_law_1455 rfl rfl (tX12_findings Θ l _  _) (Nat.le_of_ble_eq_true rfl) (Nat.le_of_ble_eq_true rfl) (Nat.le_of_ble_eq_true rfl) (fun r422 s423 => ?_)
        refine l_icmp_eq 1477 1461 dL_law_1458 (by decide) rfl (fun c424 => ?_) (fun c424 => ?_)
        · refine l_iinc (v := x3 + 6) (ls' := [some (vR 950), some (vR 1), some (vR 68), some (vI (x3 + 6))]) 1480 dL_law_1477 rfl rfl rfl (by decide) rfl rfl ?_
          refine l_goto 18 dL_law_1480 (by decide) ?_
          refine l_sub (ls' := [some (vR 950), some (vR 1), some (vR 68), some (vI (x3 + 6))]) (And.intro rfl (And.intro rfl (And.intro rfl (And.intro rfl trivial)))) ?_
          exact ih (x3 + 6) s423
        · refine l_iconst (v := 0) 1462 dL_law_1461 rfl (by decide) ?_
          exact l_ret0
      refine l_ite (fun c425 => ?_) (fun c425 => ?_)
      · refine l_tabIn (v := 49) 1463 dL_law_33 c425 (by decide) (by decide) rfl (by decide) ?_
        refine l_aload_n 1464 dL_law_1463 rfl rfl ?_
        refine l_callVl (M2 := mX11_digest) [] 1467 oa1 cc11 mkX11_digest w_1175 dL_law_1464 rfl rfl (tX11_digest Θ l   _) (Nat.le_of_ble_eq_true rfl) (Nat.le_of_ble_eq_true rfl) (Nat.le_of_ble_eq_true rfl) (fun r426 s427 => ?_)
        refine l_aload_n 1468 dL_law_1467 rfl rfl ?_
        refine l_callVl (M2 := mX12_digest) [] 1471 oa68 cc12 mkX12_digest w_1767 dL_law_1468 rfl rfl (tX12_digest Θ l   _) (Nat.le_of_ble_eq_true rfl) (Nat.le_of_ble_eq_true rfl) (Nat.le_of_ble_eq_true rfl) (fun r428 s429 => ?_)
        refine l_lcmp 1472 dL_law_1471 rfl ?_
        refine l_if_eq 1477 1475 dL_law_1472 (by decide) rfl (fun c430 => ?_) (fun c430 => ?_)
        · refine l_iinc (v := x3 + 6) (ls' := [some (vR 950), some (vR 1), some (vR 68), some (vI (x3 + 6))]) 1480 dL_law_1477 rfl rfl rfl (by decide) rfl rfl ?_
          refine l_goto 18 dL_law_1480 (by decide) ?_
          refine l_sub (ls' := [some (vR 950), some (vR 1), some (vR 68), some (vI (x3 + 6))]) (And.intro rfl (And.intro rfl (And.intro rfl (And.intro rfl trivial)))) ?_
          exact ih (x3 + 6) s429
        · refine l_iconst (v := 0) 1476 dL_law_1475 rfl (by decide) ?_
          exact l_ret0
      refine l_tabOut 1477 dL_law_33 (by have z0 := lv_neT c3 (a := 0) (by decide); have z1 := lv_neT c13 (a := 1) (by decide); have z2 := lv_neT c25 (a := 2) (by decide); have z3 := lv_neT c35 (a := 3) (by decide); have z4 := lv_neT c43 (a := 4) (by decide); have z5 := lv_neT c59 (a := 5) (by decide); have z6 := lv_neT c67 (a := 6) (by decide); have z7 := lv_neT c77 (a := 7) (by decide); have z8 := lv_neT c89 (a := 8) (by decide); have z9 := lv_neT c115 (a := 9) (by decide); have z10 := lv_neT c123 (a := 10) (by decide); have z11 := lv_neT c131 (a := 11) (by decide); have z12 := lv_neT c141 (a := 12) (by decide); have z13 := lv_neT c151 (a := 13) (by decide); have z14 := lv_neT c161 (a := 14) (by decide); have z15 := lv_neT c169 (a := 15) (by decide); have z16 := lv_neT c177 (a := 16) (by decide); have z17 := lv_neT c187 (a := 17) (by decide); have z18 := lv_neT c195 (a := 18) (by decide); have z19 := lv_neT c205 (a := 19) (by decide); have z20 := lv_neT c213 (a := 20) (by decide); have z21 := lv_neT c223 (a := 21) (by decide); have z22 := lv_neT c229 (a := 22) (by decide); have z23 := lv_neT c237 (a := 23) (by decide); have z24 := lv_neT c245 (a := 24) (by decide); have z25 := lv_neT c253 (a := 25) (by decide); have z26 := lv_neT c259 (a := 26) (by decide); have z27 := lv_neT c265 (a := 27) (by decide); have z28 := lv_neT c271 (a := 28) (by decide); have z29 := lv_neT c277 (a := 29) (by decide); have z30 := lv_neT c285 (a := 30) (by decide); have z31 := lv_neT c291 (a := 31) (by decide); have z32 := lv_neT c297 (a := 32) (by decide); have z33 := lv_neT c305 (a := 33) (by decide); have z34 := lv_neT c311 (a := 34) (by decide); have z35 := lv_neT c319 (a := 35) (by decide); have z36 := lv_neT c325 (a := 36) (by decide); have z37 := lv_neT c337 (a := 37) (by decide); have z38 := lv_neT c347 (a := 38) (by decide); have z39 := lv_neT c353 (a := 39) (by decide); have z40 := lv_neT c359 (a := 40) (by decide); have z41 := lv_neT c367 (a := 41) (by decide); have z42 := lv_neT c377 (a := 42) (by decide); have z43 := lv_neT c385 (a := 43) (by decide); have z44 := lv_neT c391 (a := 44) (by decide); have z45 := lv_neT c397 (a := 45) (by decide); have z46 := lv_neT c403 (a := 46) (by decide); have z47 := lv_neT c411 (a := 47) (by decide); have z48 := lv_neT c417 (a := 48) (by decide); have z49 := lv_neT c425 (a := 49) (by decide); omega) (by decide) ?_
      refine l_iinc (v := x3 + 6) (ls' := [some (vR 950), some (vR 1), some (vR 68), some (vI (x3 + 6))]) 1480 dL_law_1477 rfl rfl rfl (by decide) rfl rfl ?_
      refine l_goto 18 dL_law_1480 (by decide) ?_
      refine l_sub (ls' := [some (vR 950), some (vR 1), some (vR 68), some (vI (x3 + 6))]) (And.intro rfl (And.intro rfl (And.intro rfl (And.intro rfl trivial)))) ?_
      exact ih (x3 + 6) s
