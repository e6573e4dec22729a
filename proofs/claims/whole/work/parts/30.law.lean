def x_L_law_L18 (n0 : Nat) (xs0 : Nat → Int32) : Nat → Int32 → g_M → Option (Int32 × g_M)
  | 0, _, _ => none
  | n + 1, v3, M => (if ((Int32.ofNat n0) - (5 : Int32)) < v3 then (some ((1 : Int32), M)) else ((if g_inb v3 n0 = true then (if ((xs0 v3.toNatClampNeg) &&& (63 : Int32)) = (0 : Int32) then ((if g_inb (v3 + (1 : Int32)) n0 = true then (((x_X8_feed (xs0 (v3 + (1 : Int32)).toNatClampNeg) M).bind fun u3 => (if g_inb (v3 + (1 : Int32)) n0 = true then (((x_X9_feed (xs0 (v3 + (1 : Int32)).toNatClampNeg) u3.2).bind fun u6 => if u3.1 = u6.1 then (x_L_law_L18 n0 xs0 n (v3 + (5 : Int32)) u6.2) else (some ((0 : Int32), u6.2)))) else none))) else none)) else if ((xs0 v3.toNatClampNeg) &&& (63 : Int32)) = (1 : Int32) then (((x_X8_quay M).bind fun u9 => ((x_X9_quay u9.2).bind fun u11 => if u9.1 = u11.1 then (x_L_law_L18 n0 xs0 n (v3 + (5 : Int32)) u11.2) else (some ((0 : Int32), u11.2))))) else if ((xs0 v3.toNatClampNeg) &&& (63 : Int32)) = (2 : Int32) then ((if g_inb (v3 + (1 : Int32)) n0 = true then (((x_X8_tide (xs0 (v3 + (1 : Int32)).toNatClampNeg) M).bind fun u15 => (if g_inb (v3 + (1 : Int32)) n0 = true then (((x_X9_tide (xs0 (v3 + (1 : Int32)).toNatClampNeg) u15.2).bind fun u18 => if u15.1 = u18.1 then (x_L_law_L18 n0 xs0 n (v3 + (5 : Int32)) u18.2) else (some ((0 : Int32), u18.2)))) else none))) else none)) else if ((xs0 v3.toNatClampNeg) &&& (63 : Int32)) = (3 : Int32) then ((if g_inb (v3 + (1 : Int32)) n0 = true then (((x_X8_wind (xs0 (v3 + (1 : Int32)).toNatClampNeg) M).bind fun u22 => (if g_inb (v3 + (1 : Int32)) n0 = true then (((x_X9_wind (xs0 (v3 + (1 : Int32)).toNatClampNeg) u22.2).bind fun u25 => if u22.1 = u25.1 then (x_L_law_L18 n0 xs0 n (v3 + (5 : Int32)) u25.2) else (some ((0 : Int32), u25.2)))) else none))) else none)) else if ((xs0 v3.toNatClampNeg) &&& (63 : Int32)) = (4 : Int32) then ((if g_inb (v3 + (1 : Int32)) n0 = true then ((if g_inb (v3 + (2 : Int32)) n0 = true then (((x_X8_rises (xs0 (v3 + (1 : Int32)).toNatClampNeg) (xs0 (v3 + (2 : Int32)).toNatClampNeg) M).bind fun u30 => (if g_inb (v3 + (1 : Int32)) n0 = true then ((if g_inb (v3 + (2 : Int32)) n0 = true then (((x_X9_rises (xs0 (v3 + (1 : Int32)).toNatClampNeg) (xs0 (v3 + (2 : Int32)).toNatClampNeg) u30.2).bind fun u34 => if u30.1 = u34.1 then (x_L_law_L18 n0 xs0 n (v3 + (5 : Int32)) u34.2) else (some ((0 : Int32), u34.2)))) else none)) else none))) else none)) else none)) else if ((xs0 v3.toNatClampNeg) &&& (63 : Int32)) = (5 : Int32) then ((if g_inb (v3 + (1 : Int32)) n0 = true then ((if g_inb (v3 + (2 : Int32)) n0 = true then (((x_X8_ring (xs0 (v3 + (1 : Int32)).toNatClampNeg) (xs0 (v3 + (2 : Int32)).toNatClampNeg) M).bind fun u39 => (if g_inb (v3 + (1 : Int32)) n0 = true then ((if g_inb (v3 + (2 : Int32)) n0 = true then (((x_X9_ring (xs0 (v3 + (1 : Int32)).toNatClampNeg) (xs0 (v3 + (2 : Int32)).toNatClampNeg) u39.2).bind fun u43 => if u39.1 = u43.1 then (x_L_law_L18 n0 xs0 n (v3 + (5 : Int32)) u43.2) else (some ((0 : Int32), u43.2)))) else none)) else none))) else none)) else none)) else if ((xs0 v3.toNatClampNeg) &&& (63 : Int32)) = (6 : Int32) then ((if g_inb (v3 + (1 : Int32)) n0 = true then ((if g_inb (v3 + (2 : Int32)) n0 = true then (((x_X8_boat (xs0 (v3 + (1 : Int32)).toNatClampNeg) (xs0 (v3 + (2 : Int32)).toNatClampNeg) M).bind fun u48 => (if g_inb (v3 + (1 : Int32)) n0 = true then ((if g_inb (v3 + (2 : Int32)) n0 = true then (((x_X9_boat (xs0 (v3 + (1 : Int32)).toNatClampNeg) (xs0 (v3 + (2 : Int32)).toNatClampNeg) u48.2).bind fun u52 => if u48.1 = u52.1 then (x_L_law_L18 n0 xs0 n (v3 + (5 : Int32)) u52.2) else (some ((0 : Int32), u52.2)))) else none)) else none))) else none)) else none)) else if ((xs0 v3.toNatClampNeg) &&& (63 : Int32)) = (7 : Int32) then ((if g_inb (v3 + (1 : Int32)) n0 = true then ((if g_inb (v3 + (2 : Int32)) n0 = true then (((x_X8_pay (xs0 (v3 + (1 : Int32)).toNatClampNeg) (xs0 (v3 + (2 : Int32)).toNatClampNeg) M).bind fun u57 => (if g_inb (v3 + (1 : Int32)) n0 = true then ((if g_inb (v3 + (2 : Int32)) n0 = true then (((x_X9_pay (xs0 (v3 + (1 : Int32)).toNatClampNeg) (xs0 (v3 + (2 : Int32)).toNatClampNeg) u57.2).bind fun u61 => if u57.1 = u61.1 then (x_L_law_L18 n0 xs0 n (v3 + (5 : Int32)) u61.2) else (some ((0 : Int32), u61.2)))) else none)) else none))) else none)) else none)) else if ((xs0 v3.toNatClampNeg) &&& (63 : Int32)) = (8 : Int32) then ((if g_inb (v3 + (1 : Int32)) n0 = true then ((if g_inb (v3 + (2 : Int32)) n0 = true then (((x_X8_tie (xs0 (v3 + (1 : Int32)).toNatClampNeg) (xs0 (v3 + (2 : Int32)).toNatClampNeg) M).bind fun u66 => (if g_inb (v3 + (1 : Int32)) n0 = true then ((if g_inb (v3 + (2 : Int32)) n0 = true then (((x_X9_tie (xs0 (v3 + (1 : Int32)).toNatClampNeg) (xs0 (v3 + (2 : Int32)).toNatClampNeg) u66.2).bind fun u70 => if u66.1 = u70.1 then (x_L_law_L18 n0 xs0 n (v3 + (5 : Int32)) u70.2) else (some ((0 : Int32), u70.2)))) else none)) else none))) else none)) else none)) else if ((xs0 v3.toNatClampNeg) &&& (63 : Int32)) = (9 : Int32) then ((if g_inb (v3 + (1 : Int32)) n0 = true then ((if g_inb (v3 + (2 : Int32)) n0 = true then (((x_X8_set (xs0 (v3 + (1 : Int32)).toNatClampNeg) (xs0 (v3 + (2 : Int32)).toNatClampNeg) M).bind fun u75 => (if g_inb (v3 + (1 : Int32)) n0 = true then ((if g_inb (v3 + (2 : Int32)) n0 = true then (((x_X9_set (xs0 (v3 + (1 : Int32)).toNatClampNeg) (xs0 (v3 + (2 : Int32)).toNatClampNeg) u75.2).bind fun u79 => if u75.1 = u79.1 then (x_L_law_L18 n0 xs0 n (v3 + (5 : Int32)) u79.2) else (some ((0 : Int32), u79.2)))) else none)) else none))) else none)) else none)) else if ((xs0 v3.toNatClampNeg) &&& (63 : Int32)) = (10 : Int32) then (((x_X8_hour M).bind fun u82 => ((x_X9_hour u82.2).bind fun u84 => if u82.1 = u84.1 then (x_L_law_L18 n0 xs0 n (v3 + (5 : Int32)) u84.2) else (some ((0 : Int32), u84.2))))) else if ((xs0 v3.toNatClampNeg) &&& (63 : Int32)) = (11 : Int32) then ((if g_inb (v3 + (1 : Int32)) n0 = true then ((if g_inb (v3 + (2 : Int32)) n0 = true then (((x_X8_needs (xs0 (v3 + (1 : Int32)).toNatClampNeg) (xs0 (v3 + (2 : Int32)).toNatClampNeg) M).bind fun u89 => (if g_inb (v3 + (1 : Int32)) n0 = true then ((if g_inb (v3 + (2 : Int32)) n0 = true then (((x_X9_needs (xs0 (v3 + (1 : Int32)).toNatClampNeg) (xs0 (v3 + (2 : Int32)).toNatClampNeg) u89.2).bind fun u93 => if u89.1 = u93.1 then (x_L_law_L18 n0 xs0 n (v3 + (5 : Int32)) u93.2) else (some ((0 : Int32), u93.2)))) else none)) else none))) else none)) else none)) else if ((xs0 v3.toNatClampNeg) &&& (63 : Int32)) = (12 : Int32) then ((if g_inb (v3 + (1 : Int32)) n0 = true then ((if g_inb (v3 + (2 : Int32)) n0 = true then (((x_X8_out (xs0 (v3 + (1 : Int32)).toNatClampNeg) (xs0 (v3 + (2 : Int32)).toNatClampNeg) M).bind fun u98 => (if g_inb (v3 + (1 : Int32)) n0 = true then ((if g_inb (v3 + (2 : Int32)) n0 = true then (((x_X9_out (xs0 (v3 + (1 : Int32)).toNatClampNeg) (xs0 (v3 + (2 : Int32)).toNatClampNeg) u98.2).bind fun u102 => if u98.1 = u102.1 then (x_L_law_L18 n0 xs0 n (v3 + (5 : Int32)) u102.2) else (some ((0 : Int32), u102.2)))) else none)) else none))) else none)) else none)) else if ((xs0 v3.toNatClampNeg) &&& (63 : Int32)) = (13 : Int32) then ((if g_inb (v3 + (1 : Int32)) n0 = true then ((if g_inb (v3 + (2 : Int32)) n0 = true then ((if g_inb (v3 + (3 : Int32)) n0 = true then (((x_X8_lies (xs0 (v3 + (1 : Int32)).toNatClampNeg) (xs0 (v3 + (2 : Int32)).toNatClampNeg) (xs0 (v3 + (3 : Int32)).toNatClampNeg) M).bind fun u108 => (if g_inb (v3 + (1 : Int32)) n0 = true then ((if g_inb (v3 + (2 : Int32)) n0 = true then ((if g_inb (v3 + (3 : Int32)) n0 = true then (((x_X9_lies (xs0 (v3 + (1 : Int32)).toNatClampNeg) (xs0 (v3 + (2 : Int32)).toNatClampNeg) (xs0 (v3 + (3 : Int32)).toNatClampNeg) u108.2).bind fun u113 => if u108.1 = u113.1 then (x_L_law_L18 n0 xs0 n (v3 + (5 : Int32)) u113.2) else (some ((0 : Int32), u113.2)))) else none)) else none)) else none))) else none)) else none)) else none)) else if ((xs0 v3.toNatClampNeg) &&& (63 : Int32)) = (14 : Int32) then ((if g_inb (v3 + (1 : Int32)) n0 = true then ((if g_inb (v3 + (2 : Int32)) n0 = true then (((x_X8_hours (xs0 (v3 + (1 : Int32)).toNatClampNeg) (xs0 (v3 + (2 : Int32)).toNatClampNeg) M).bind fun u118 => (if g_inb (v3 + (1 : Int32)) n0 = true then ((if g_inb (v3 + (2 : Int32)) n0 = true then (((x_X9_hours (xs0 (v3 + (1 : Int32)).toNatClampNeg) (xs0 (v3 + (2 : Int32)).toNatClampNeg) u118.2).bind fun u122 => if u118.1 = u122.1 then (x_L_law_L18 n0 xs0 n (v3 + (5 : Int32)) u122.2) else (some ((0 : Int32), u122.2)))) else none)) else none))) else none)) else none)) else if ((xs0 v3.toNatClampNeg) &&& (63 : Int32)) = (15 : Int32) then ((if g_inb (v3 + (1 : Int32)) n0 = true then ((if g_inb (v3 + (2 : Int32)) n0 = true then (((x_X8_length (xs0 (v3 + (1 : Int32)).toNatClampNeg) (xs0 (v3 + (2 : Int32)).toNatClampNeg) M).bind fun u127 => (if g_inb (v3 + (1 : Int32)) n0 = true then ((if g_inb (v3 + (2 : Int32)) n0 = true then (((x_X9_length (xs0 (v3 + (1 : Int32)).toNatClampNeg) (xs0 (v3 + (2 : Int32)).toNatClampNeg) u127.2).bind fun u131 => if u127.1 = u131.1 then (x_L_law_L18 n0 xs0 n (v3 + (5 : Int32)) u131.2) else (some ((0 : Int32), u131.2)))) else none)) else none))) else none)) else none)) else if ((xs0 v3.toNatClampNeg) &&& (63 : Int32)) = (16 : Int32) then ((if g_inb (v3 + (1 : Int32)) n0 = true then ((if g_inb (v3 + (2 : Int32)) n0 = true then (((x_X8_tended (xs0 (v3 + (1 : Int32)).toNatClampNeg) (xs0 (v3 + (2 : Int32)).toNatClampNeg) M).bind fun u136 => (if g_inb (v3 + (1 : Int32)) n0 = true then ((if g_inb (v3 + (2 : Int32)) n0 = true then (((x_X9_tended (xs0 (v3 + (1 : Int32)).toNatClampNeg) (xs0 (v3 + (2 : Int32)).toNatClampNeg) u136.2).bind fun u140 => if u136.1 = u140.1 then (x_L_law_L18 n0 xs0 n (v3 + (5 : Int32)) u140.2) else (some ((0 : Int32), u140.2)))) else none)) else none))) else none)) else none)) else if ((xs0 v3.toNatClampNeg) &&& (63 : Int32)) = (17 : Int32) then ((if g_inb (v3 + (1 : Int32)) n0 = true then ((if g_inb (v3 + (2 : Int32)) n0 = true then (((x_X8_touch (xs0 (v3 + (1 : Int32)).toNatClampNeg) (xs0 (v3 + (2 : Int32)).toNatClampNeg) M).bind fun u145 => (if g_inb (v3 + (1 : Int32)) n0 = true then ((if g_inb (v3 + (2 : Int32)) n0 = true then (((x_X9_touch (xs0 (v3 + (1 : Int32)).toNatClampNeg) (xs0 (v3 + (2 : Int32)).toNatClampNeg) u145.2).bind fun u149 => if u145.1 = u149.1 then (x_L_law_L18 n0 xs0 n (v3 + (5 : Int32)) u149.2) else (some ((0 : Int32), u149.2)))) else none)) else none))) else none)) else none)) else if ((xs0 v3.toNatClampNeg) &&& (63 : Int32)) = (18 : Int32) then ((if g_inb (v3 + (1 : Int32)) n0 = true then ((if g_inb (v3 + (2 : Int32)) n0 = true then (((x_X8_clear (xs0 (v3 + (1 : Int32)).toNatClampNeg) (xs0 (v3 + (2 : Int32)).toNatClampNeg) M).bind fun u154 => (if g_inb (v3 + (1 : Int32)) n0 = true then ((if g_inb (v3 + (2 : Int32)) n0 = true then (((x_X9_clear (xs0 (v3 + (1 : Int32)).toNatClampNeg) (xs0 (v3 + (2 : Int32)).toNatClampNeg) u154.2).bind fun u158 => if u154.1 = u158.1 then (x_L_law_L18 n0 xs0 n (v3 + (5 : Int32)) u158.2) else (some ((0 : Int32), u158.2)))) else none)) else none))) else none)) else none)) else if ((xs0 v3.toNatClampNeg) &&& (63 : Int32)) = (19 : Int32) then ((if g_inb (v3 + (1 : Int32)) n0 = true then (((x_X8_slack (xs0 (v3 + (1 : Int32)).toNatClampNeg) M).bind fun u162 => (if g_inb (v3 + (1 : Int32)) n0 = true then (((x_X9_slack (xs0 (v3 + (1 : Int32)).toNatClampNeg) u162.2).bind fun u165 => if u162.1 = u165.1 then (x_L_law_L18 n0 xs0 n (v3 + (5 : Int32)) u165.2) else (some ((0 : Int32), u165.2)))) else none))) else none)) else if ((xs0 v3.toNatClampNeg) &&& (63 : Int32)) = (20 : Int32) then ((if g_inb (v3 + (1 : Int32)) n0 = true then (((x_X8_alongside (xs0 (v3 + (1 : Int32)).toNatClampNeg) M).bind fun u169 => (if g_inb (v3 + (1 : Int32)) n0 = true then (((x_X9_alongside (xs0 (v3 + (1 : Int32)).toNatClampNeg) u169.2).bind fun u172 => if u169.1 = u172.1 then (x_L_law_L18 n0 xs0 n (v3 + (5 : Int32)) u172.2) else (some ((0 : Int32), u172.2)))) else none))) else none)) else if ((xs0 v3.toNatClampNeg) &&& (63 : Int32)) = (21 : Int32) then ((if g_inb (v3 + (1 : Int32)) n0 = true then ((if g_inb (v3 + (2 : Int32)) n0 = true then (((x_X8_mud (xs0 (v3 + (1 : Int32)).toNatClampNeg) (xs0 (v3 + (2 : Int32)).toNatClampNeg) M).bind fun u177 => (if g_inb (v3 + (1 : Int32)) n0 = true then ((if g_inb (v3 + (2 : Int32)) n0 = true then (((x_X9_mud (xs0 (v3 + (1 : Int32)).toNatClampNeg) (xs0 (v3 + (2 : Int32)).toNatClampNeg) u177.2).bind fun u181 => if u177.1 = u181.1 then (x_L_law_L18 n0 xs0 n (v3 + (5 : Int32)) u181.2) else (some ((0 : Int32), u181.2)))) else none)) else none))) else none)) else none)) else if ((xs0 v3.toNatClampNeg) &&& (63 : Int32)) = (22 : Int32) then ((if g_inb (v3 + (1 : Int32)) n0 = true then ((if g_inb (v3 + (2 : Int32)) n0 = true then ((if g_inb (v3 + (3 : Int32)) n0 = true then (((x_X8_carry (xs0 (v3 + (1 : Int32)).toNatClampNeg) (xs0 (v3 + (2 : Int32)).toNatClampNeg) (xs0 (v3 + (3 : Int32)).toNatClampNeg) M).bind fun u187 => (if g_inb (v3 + (1 : Int32)) n0 = true then ((if g_inb (v3 + (2 : Int32)) n0 = true then ((if g_inb (v3 + (3 : Int32)) n0 = true then (((x_X9_carry (xs0 (v3 + (1 : Int32)).toNatClampNeg) (xs0 (v3 + (2 : Int32)).toNatClampNeg) (xs0 (v3 + (3 : Int32)).toNatClampNeg) u187.2).bind fun u192 => if u187.1 = u192.1 then (x_L_law_L18 n0 xs0 n (v3 + (5 : Int32)) u192.2) else (some ((0 : Int32), u192.2)))) else none)) else none)) else none))) else none)) else none)) else none)) else if ((xs0 v3.toNatClampNeg) &&& (63 : Int32)) = (23 : Int32) then ((if g_inb (v3 + (1 : Int32)) n0 = true then (((x_X8_berths (xs0 (v3 + (1 : Int32)).toNatClampNeg) M).bind fun u196 => (if g_inb (v3 + (1 : Int32)) n0 = true then (((x_X9_berths (xs0 (v3 + (1 : Int32)).toNatClampNeg) u196.2).bind fun u199 => if u196.1 = u199.1 then (x_L_law_L18 n0 xs0 n (v3 + (5 : Int32)) u199.2) else (some ((0 : Int32), u199.2)))) else none))) else none)) else if ((xs0 v3.toNatClampNeg) &&& (63 : Int32)) = (24 : Int32) then ((if g_inb (v3 + (1 : Int32)) n0 = true then ((if g_inb (v3 + (2 : Int32)) n0 = true then (((x_X8_saves (xs0 (v3 + (1 : Int32)).toNatClampNeg) (xs0 (v3 + (2 : Int32)).toNatClampNeg) M).bind fun u204 => (if g_inb (v3 + (1 : Int32)) n0 = true then ((if g_inb (v3 + (2 : Int32)) n0 = true then (((x_X9_saves (xs0 (v3 + (1 : Int32)).toNatClampNeg) (xs0 (v3 + (2 : Int32)).toNatClampNeg) u204.2).bind fun u208 => if u204.1 = u208.1 then (x_L_law_L18 n0 xs0 n (v3 + (5 : Int32)) u208.2) else (some ((0 : Int32), u208.2)))) else none)) else none))) else none)) else none)) else if ((xs0 v3.toNatClampNeg) &&& (63 : Int32)) = (25 : Int32) then ((if g_inb (v3 + (1 : Int32)) n0 = true then ((if g_inb (v3 + (2 : Int32)) n0 = true then ((if g_inb (v3 + (3 : Int32)) n0 = true then (((x_X8_marks (xs0 (v3 + (1 : Int32)).toNatClampNeg) (xs0 (v3 + (2 : Int32)).toNatClampNeg) (xs0 (v3 + (3 : Int32)).toNatClampNeg) M).bind fun u214 => (if g_inb (v3 + (1 : Int32)) n0 = true then ((if g_inb (v3 + (2 : Int32)) n0 = true then ((if g_inb (v3 + (3 : Int32)) n0 = true then (((x_X9_marks (xs0 (v3 + (1 : Int32)).toNatClampNeg) (xs0 (v3 + (2 : Int32)).toNatClampNeg) (xs0 (v3 + (3 : Int32)).toNatClampNeg) u214.2).bind fun u219 => if u214.1 = u219.1 then (x_L_law_L18 n0 xs0 n (v3 + (5 : Int32)) u219.2) else (some ((0 : Int32), u219.2)))) else none)) else none)) else none))) else none)) else none)) else none)) else if ((xs0 v3.toNatClampNeg) &&& (63 : Int32)) = (26 : Int32) then ((if g_inb (v3 + (1 : Int32)) n0 = true then (((x_X8_whose (xs0 (v3 + (1 : Int32)).toNatClampNeg) M).bind fun u223 => (if g_inb (v3 + (1 : Int32)) n0 = true then (((x_X9_whose (xs0 (v3 + (1 : Int32)).toNatClampNeg) u223.2).bind fun u226 => if u223.1 = u226.1 then (x_L_law_L18 n0 xs0 n (v3 + (5 : Int32)) u226.2) else (some ((0 : Int32), u226.2)))) else none))) else none)) else if ((xs0 v3.toNatClampNeg) &&& (63 : Int32)) = (27 : Int32) then ((if g_inb (v3 + (1 : Int32)) n0 = true then (((x_X8_row (xs0 (v3 + (1 : Int32)).toNatClampNeg) M).bind fun u230 => (if g_inb (v3 + (1 : Int32)) n0 = true then (((x_X9_row (xs0 (v3 + (1 : Int32)).toNatClampNeg) u230.2).bind fun u233 => if u230.1 = u233.1 then (x_L_law_L18 n0 xs0 n (v3 + (5 : Int32)) u233.2) else (some ((0 : Int32), u233.2)))) else none))) else none)) else if ((xs0 v3.toNatClampNeg) &&& (63 : Int32)) = (28 : Int32) then ((if g_inb (v3 + (1 : Int32)) n0 = true then (((x_X8_judge (xs0 (v3 + (1 : Int32)).toNatClampNeg) M).bind fun u237 => (if g_inb (v3 + (1 : Int32)) n0 = true then (((x_X9_judge (xs0 (v3 + (1 : Int32)).toNatClampNeg) u237.2).bind fun u240 => if u237.1 = u240.1 then (x_L_law_L18 n0 xs0 n (v3 + (5 : Int32)) u240.2) else (some ((0 : Int32), u240.2)))) else none))) else none)) else if ((xs0 v3.toNatClampNeg) &&& (63 : Int32)) = (29 : Int32) then (((x_X8_drop M).bind fun u243 => ((x_X9_drop u243.2).bind fun u245 => if u243.1 = u245.1 then (x_L_law_L18 n0 xs0 n (v3 + (5 : Int32)) u245.2) else (some ((0 : Int32), u245.2))))) else if ((xs0 v3.toNatClampNeg) &&& (63 : Int32)) = (30 : Int32) then ((if g_inb (v3 + (1 : Int32)) n0 = true then ((if g_inb (v3 + (2 : Int32)) n0 = true then ((if g_inb (v3 + (3 : Int32)) n0 = true then ((if g_inb (v3 + (4 : Int32)) n0 = true then (((x_X8_seeds (xs0 (v3 + (1 : Int32)).toNatClampNeg) (xs0 (v3 + (2 : Int32)).toNatClampNeg) (xs0 (v3 + (3 : Int32)).toNatClampNeg) (xs0 (v3 + (4 : Int32)).toNatClampNeg) M).bind fun u252 => (if g_inb (v3 + (1 : Int32)) n0 = true then ((if g_inb (v3 + (2 : Int32)) n0 = true then ((if g_inb (v3 + (3 : Int32)) n0 = true then ((if g_inb (v3 + (4 : Int32)) n0 = true then (((x_X9_seeds (xs0 (v3 + (1 : Int32)).toNatClampNeg) (xs0 (v3 + (2 : Int32)).toNatClampNeg) (xs0 (v3 + (3 : Int32)).toNatClampNeg) (xs0 (v3 + (4 : Int32)).toNatClampNeg) u252.2).bind fun u258 => if u252.1 = u258.1 then (x_L_law_L18 n0 xs0 n (v3 + (5 : Int32)) u258.2) else (some ((0 : Int32), u258.2)))) else none)) else none)) else none)) else none))) else none)) else none)) else none)) else none)) else if ((xs0 v3.toNatClampNeg) &&& (63 : Int32)) = (31 : Int32) then (((x_X8_back M).bind fun u261 => ((x_X9_back u261.2).bind fun u263 => if u261.1 = u263.1 then (x_L_law_L18 n0 xs0 n (v3 + (5 : Int32)) u263.2) else (some ((0 : Int32), u263.2))))) else if ((xs0 v3.toNatClampNeg) &&& (63 : Int32)) = (32 : Int32) then ((if g_inb (v3 + (1 : Int32)) n0 = true then (((x_X8_spring (xs0 (v3 + (1 : Int32)).toNatClampNeg) M).bind fun u267 => (if g_inb (v3 + (1 : Int32)) n0 = true then (((x_X9_spring (xs0 (v3 + (1 : Int32)).toNatClampNeg) u267.2).bind fun u270 => if u267.1 = u270.1 then (x_L_law_L18 n0 xs0 n (v3 + (5 : Int32)) u270.2) else (some ((0 : Int32), u270.2)))) else none))) else none)) else if ((xs0 v3.toNatClampNeg) &&& (63 : Int32)) = (33 : Int32) then ((if g_inb (v3 + (1 : Int32)) n0 = true then ((if g_inb (v3 + (2 : Int32)) n0 = true then (((x_X8_swells (xs0 (v3 + (1 : Int32)).toNatClampNeg) (xs0 (v3 + (2 : Int32)).toNatClampNeg) M).bind fun u275 => (if g_inb (v3 + (1 : Int32)) n0 = true then ((if g_inb (v3 + (2 : Int32)) n0 = true then (((x_X9_swells (xs0 (v3 + (1 : Int32)).toNatClampNeg) (xs0 (v3 + (2 : Int32)).toNatClampNeg) u275.2).bind fun u279 => if u275.1 = u279.1 then (x_L_law_L18 n0 xs0 n (v3 + (5 : Int32)) u279.2) else (some ((0 : Int32), u279.2)))) else none)) else none))) else none)) else none)) else if ((xs0 v3.toNatClampNeg) &&& (63 : Int32)) = (34 : Int32) then ((if g_inb (v3 + (1 : Int32)) n0 = true then ((if g_inb (v3 + (2 : Int32)) n0 = true then (((x_X8_fortnight (xs0 (v3 + (1 : Int32)).toNatClampNeg) (xs0 (v3 + (2 : Int32)).toNatClampNeg) M).bind fun u284 => (if g_inb (v3 + (1 : Int32)) n0 = true then ((if g_inb (v3 + (2 : Int32)) n0 = true then (((x_X9_fortnight (xs0 (v3 + (1 : Int32)).toNatClampNeg) (xs0 (v3 + (2 : Int32)).toNatClampNeg) u284.2).bind fun u288 => if u284.1 = u288.1 then (x_L_law_L18 n0 xs0 n (v3 + (5 : Int32)) u288.2) else (some ((0 : Int32), u288.2)))) else none)) else none))) else none)) else none)) else if ((xs0 v3.toNatClampNeg) &&& (63 : Int32)) = (35 : Int32) then ((if g_inb (v3 + (1 : Int32)) n0 = true then ((if g_inb (v3 + (2 : Int32)) n0 = true then (((x_X8_watch (xs0 (v3 + (1 : Int32)).toNatClampNeg) (xs0 (v3 + (2 : Int32)).toNatClampNeg) M).bind fun u293 => (if g_inb (v3 + (1 : Int32)) n0 = true then ((if g_inb (v3 + (2 : Int32)) n0 = true then (((x_X9_watch (xs0 (v3 + (1 : Int32)).toNatClampNeg) (xs0 (v3 + (2 : Int32)).toNatClampNeg) u293.2).bind fun u297 => if u293.1 = u297.1 then (x_L_law_L18 n0 xs0 n (v3 + (5 : Int32)) u297.2) else (some ((0 : Int32), u297.2)))) else none)) else none))) else none)) else none)) else if ((xs0 v3.toNatClampNeg) &&& (63 : Int32)) = (36 : Int32) then ((if g_inb (v3 + (1 : Int32)) n0 = true then (((x_X8_seldom (xs0 (v3 + (1 : Int32)).toNatClampNeg) M).bind fun u301 => (if g_inb (v3 + (1 : Int32)) n0 = true then (((x_X9_seldom (xs0 (v3 + (1 : Int32)).toNatClampNeg) u301.2).bind fun u304 => if u301.1 = u304.1 then (x_L_law_L18 n0 xs0 n (v3 + (5 : Int32)) u304.2) else (some ((0 : Int32), u304.2)))) else none))) else none)) else if ((xs0 v3.toNatClampNeg) &&& (63 : Int32)) = (37 : Int32) then ((if g_inb (v3 + (1 : Int32)) n0 = true then ((if g_inb (v3 + (2 : Int32)) n0 = true then (((x_X8_wake (xs0 (v3 + (1 : Int32)).toNatClampNeg) (xs0 (v3 + (2 : Int32)).toNatClampNeg) M).bind fun u309 => (if g_inb (v3 + (1 : Int32)) n0 = true then ((if g_inb (v3 + (2 : Int32)) n0 = true then (((x_X9_wake (xs0 (v3 + (1 : Int32)).toNatClampNeg) (xs0 (v3 + (2 : Int32)).toNatClampNeg) u309.2).bind fun u313 => if u309.1 = u313.1 then (x_L_law_L18 n0 xs0 n (v3 + (5 : Int32)) u313.2) else (some ((0 : Int32), u313.2)))) else none)) else none))) else none)) else none)) else if ((xs0 v3.toNatClampNeg) &&& (63 : Int32)) = (38 : Int32) then ((if g_inb (v3 + (1 : Int32)) n0 = true then ((if g_inb (v3 + (2 : Int32)) n0 = true then (((x_X8_ramp (xs0 (v3 + (1 : Int32)).toNatClampNeg) (xs0 (v3 + (2 : Int32)).toNatClampNeg) M).bind fun u318 => (if g_inb (v3 + (1 : Int32)) n0 = true then ((if g_inb (v3 + (2 : Int32)) n0 = true then (((x_X9_ramp (xs0 (v3 + (1 : Int32)).toNatClampNeg) (xs0 (v3 + (2 : Int32)).toNatClampNeg) u318.2).bind fun u322 => if u318.1 = u322.1 then (x_L_law_L18 n0 xs0 n (v3 + (5 : Int32)) u322.2) else (some ((0 : Int32), u322.2)))) else none)) else none))) else none)) else none)) else if ((xs0 v3.toNatClampNeg) &&& (63 : Int32)) = (39 : Int32) then ((if g_inb (v3 + (1 : Int32)) n0 = true then ((if g_inb (v3 + (2 : Int32)) n0 = true then (((x_X8_slope (xs0 (v3 + (1 : Int32)).toNatClampNeg) (xs0 (v3 + (2 : Int32)).toNatClampNeg) M).bind fun u327 => (if g_inb (v3 + (1 : Int32)) n0 = true then ((if g_inb (v3 + (2 : Int32)) n0 = true then (((x_X9_slope (xs0 (v3 + (1 : Int32)).toNatClampNeg) (xs0 (v3 + (2 : Int32)).toNatClampNeg) u327.2).bind fun u331 => if u327.1 = u331.1 then (x_L_law_L18 n0 xs0 n (v3 + (5 : Int32)) u331.2) else (some ((0 : Int32), u331.2)))) else none)) else none))) else none)) else none)) else if ((xs0 v3.toNatClampNeg) &&& (63 : Int32)) = (40 : Int32) then ((if g_inb (v3 + (1 : Int32)) n0 = true then ((if g_inb (v3 + (2 : Int32)) n0 = true then (((x_X8_open (xs0 (v3 + (1 : Int32)).toNatClampNeg) (xs0 (v3 + (2 : Int32)).toNatClampNeg) M).bind fun u336 => (if g_inb (v3 + (1 : Int32)) n0 = true then ((if g_inb (v3 + (2 : Int32)) n0 = true then (((x_X9_open (xs0 (v3 + (1 : Int32)).toNatClampNeg) (xs0 (v3 + (2 : Int32)).toNatClampNeg) u336.2).bind fun u340 => if u336.1 = u340.1 then (x_L_law_L18 n0 xs0 n (v3 + (5 : Int32)) u340.2) else (some ((0 : Int32), u340.2)))) else none)) else none))) else none)) else none)) else if ((xs0 v3.toNatClampNeg) &&& (63 : Int32)) = (41 : Int32) then ((if g_inb (v3 + (1 : Int32)) n0 = true then ((if g_inb (v3 + (2 : Int32)) n0 = true then ((if g_inb (v3 + (3 : Int32)) n0 = true then (((x_X8_bridge (xs0 (v3 + (1 : Int32)).toNatClampNeg) (xs0 (v3 + (2 : Int32)).toNatClampNeg) (xs0 (v3 + (3 : Int32)).toNatClampNeg) M).bind fun u346 => (if g_inb (v3 + (1 : Int32)) n0 = true then ((if g_inb (v3 + (2 : Int32)) n0 = true then ((if g_inb (v3 + (3 : Int32)) n0 = true then (((x_X9_bridge (xs0 (v3 + (1 : Int32)).toNatClampNeg) (xs0 (v3 + (2 : Int32)).toNatClampNeg) (xs0 (v3 + (3 : Int32)).toNatClampNeg) u346.2).bind fun u351 => if u346.1 = u351.1 then (x_L_law_L18 n0 xs0 n (v3 + (5 : Int32)) u351.2) else (some ((0 : Int32), u351.2)))) else none)) else none)) else none))) else none)) else none)) else none)) else if ((xs0 v3.toNatClampNeg) &&& (63 : Int32)) = (42 : Int32) then ((if g_inb (v3 + (1 : Int32)) n0 = true then ((if g_inb (v3 + (2 : Int32)) n0 = true then ((if g_inb (v3 + (3 : Int32)) n0 = true then (((x_X8_passes (xs0 (v3 + (1 : Int32)).toNatClampNeg) (xs0 (v3 + (2 : Int32)).toNatClampNeg) (xs0 (v3 + (3 : Int32)).toNatClampNeg) M).bind fun u357 => (if g_inb (v3 + (1 : Int32)) n0 = true then ((if g_inb (v3 + (2 : Int32)) n0 = true then ((if g_inb (v3 + (3 : Int32)) n0 = true then (((x_X9_passes_ (xs0 (v3 + (1 : Int32)).toNatClampNeg) (xs0 (v3 + (2 : Int32)).toNatClampNeg) (xs0 (v3 + (3 : Int32)).toNatClampNeg) u357.2).bind fun u362 => if u357.1 = u362.1 then (x_L_law_L18 n0 xs0 n (v3 + (5 : Int32)) u362.2) else (some ((0 : Int32), u362.2)))) else none)) else none)) else none))) else none)) else none)) else none)) else if ((xs0 v3.toNatClampNeg) &&& (63 : Int32)) = (43 : Int32) then ((if g_inb (v3 + (1 : Int32)) n0 = true then ((if g_inb (v3 + (2 : Int32)) n0 = true then (((x_X8_waited (xs0 (v3 + (1 : Int32)).toNatClampNeg) (xs0 (v3 + (2 : Int32)).toNatClampNeg) M).bind fun u367 => (if g_inb (v3 + (1 : Int32)) n0 = true then ((if g_inb (v3 + (2 : Int32)) n0 = true then (((x_X9_waited (xs0 (v3 + (1 : Int32)).toNatClampNeg) (xs0 (v3 + (2 : Int32)).toNatClampNeg) u367.2).bind fun u371 => if u367.1 = u371.1 then (x_L_law_L18 n0 xs0 n (v3 + (5 : Int32)) u371.2) else (some ((0 : Int32), u371.2)))) else none)) else none))) else none)) else none)) else if ((xs0 v3.toNatClampNeg) &&& (63 : Int32)) = (44 : Int32) then ((if g_inb (v3 + (1 : Int32)) n0 = true then (((x_X8_cheapest (xs0 (v3 + (1 : Int32)).toNatClampNeg) M).bind fun u375 => (if g_inb (v3 + (1 : Int32)) n0 = true then (((x_X9_cheapest (xs0 (v3 + (1 : Int32)).toNatClampNeg) u375.2).bind fun u378 => if u375.1 = u378.1 then (x_L_law_L18 n0 xs0 n (v3 + (5 : Int32)) u378.2) else (some ((0 : Int32), u378.2)))) else none))) else none)) else if ((xs0 v3.toNatClampNeg) &&& (63 : Int32)) = (45 : Int32) then ((if g_inb (v3 + (1 : Int32)) n0 = true then (((x_X8_crossed (xs0 (v3 + (1 : Int32)).toNatClampNeg) M).bind fun u382 => (if g_inb (v3 + (1 : Int32)) n0 = true then (((x_X9_crossed (xs0 (v3 + (1 : Int32)).toNatClampNeg) u382.2).bind fun u385 => if u382.1 = u385.1 then (x_L_law_L18 n0 xs0 n (v3 + (5 : Int32)) u385.2) else (some ((0 : Int32), u385.2)))) else none))) else none)) else if ((xs0 v3.toNatClampNeg) &&& (63 : Int32)) = (46 : Int32) then ((if g_inb (v3 + (1 : Int32)) n0 = true then ((if g_inb (v3 + (2 : Int32)) n0 = true then ((if g_inb (v3 + (3 : Int32)) n0 = true then (((x_X8_hung (xs0 (v3 + (1 : Int32)).toNatClampNeg) (xs0 (v3 + (2 : Int32)).toNatClampNeg) (xs0 (v3 + (3 : Int32)).toNatClampNeg) M).bind fun u391 => (if g_inb (v3 + (1 : Int32)) n0 = true then ((if g_inb (v3 + (2 : Int32)) n0 = true then ((if g_inb (v3 + (3 : Int32)) n0 = true then (((x_X9_hung (xs0 (v3 + (1 : Int32)).toNatClampNeg) (xs0 (v3 + (2 : Int32)).toNatClampNeg) (xs0 (v3 + (3 : Int32)).toNatClampNeg) u391.2).bind fun u396 => if u391.1 = u396.1 then (x_L_law_L18 n0 xs0 n (v3 + (5 : Int32)) u396.2) else (some ((0 : Int32), u396.2)))) else none)) else none)) else none))) else none)) else none)) else none)) else if ((xs0 v3.toNatClampNeg) &&& (63 : Int32)) = (47 : Int32) then ((if g_inb (v3 + (1 : Int32)) n0 = true then ((if g_inb (v3 + (2 : Int32)) n0 = true then ((if g_inb (v3 + (3 : Int32)) n0 = true then (((x_X8_skippers (xs0 (v3 + (1 : Int32)).toNatClampNeg) (xs0 (v3 + (2 : Int32)).toNatClampNeg) (xs0 (v3 + (3 : Int32)).toNatClampNeg) M).bind fun u402 => (if g_inb (v3 + (1 : Int32)) n0 = true then ((if g_inb (v3 + (2 : Int32)) n0 = true then ((if g_inb (v3 + (3 : Int32)) n0 = true then (((x_X9_skippers (xs0 (v3 + (1 : Int32)).toNatClampNeg) (xs0 (v3 + (2 : Int32)).toNatClampNeg) (xs0 (v3 + (3 : Int32)).toNatClampNeg) u402.2).bind fun u407 => if u402.1 = u407.1 then (x_L_law_L18 n0 xs0 n (v3 + (5 : Int32)) u407.2) else (some ((0 : Int32), u407.2)))) else none)) else none)) else none))) else none)) else none)) else none)) else if ((xs0 v3.toNatClampNeg) &&& (63 : Int32)) = (48 : Int32) then (((x_X8_image M).bind fun u410 => ((x_X9_image u410.2).bind fun u412 => if u410.1 = u412.1 then (x_L_law_L18 n0 xs0 n (v3 + (5 : Int32)) u412.2) else (some ((0 : Int32), u412.2))))) else if ((xs0 v3.toNatClampNeg) &&& (63 : Int32)) = (49 : Int32) then (((x_X8_restore M).bind fun u415 => ((x_X9_restore u415.2).bind fun u417 => if u415.1 = u417.1 then (x_L_law_L18 n0 xs0 n (v3 + (5 : Int32)) u417.2) else (some ((0 : Int32), u417.2))))) else if ((xs0 v3.toNatClampNeg) &&& (63 : Int32)) = (50 : Int32) then ((if g_inb (v3 + (1 : Int32)) n0 = true then (((x_X8_count (xs0 (v3 + (1 : Int32)).toNatClampNeg) M).bind fun u421 => (if g_inb (v3 + (1 : Int32)) n0 = true then (((x_X9_count (xs0 (v3 + (1 : Int32)).toNatClampNeg) u421.2).bind fun u424 => if u421.1 = u424.1 then (x_L_law_L18 n0 xs0 n (v3 + (5 : Int32)) u424.2) else (some ((0 : Int32), u424.2)))) else none))) else none)) else (x_L_law_L18 n0 xs0 n (v3 + (5 : Int32)) M)) else none)))
set_option maxHeartbeats 40000000 in
set_option maxRecDepth 100000 in
theorem z_L_law_L18 {X : g_X} (hok : g_ok X) {n0 : Nat} {xs0 : Nat → Int32} (hn0 : X.2.2.2.2.1 = n0) (hx0 : X.2.2.2.2.2 = xs0) {r : Int32 × g_M} : ∀ (n : Nat) (v3 : Int32) (M : g_M), x_L_law_L18 n0 xs0 n v3 M = some r → g_Go X cL_law RL 4 (some .boolean) 8 191 r 18 [some (.inr 5000), some (.inr 0), some (.inr 41), some (.inl v3)] [] M := by
  intro n
  induction n with
  | zero =>
    intro v3 M h
    rw [x_L_law_L18] at h
    cases h
  | succ n ih =>
    intro v3 M h
    rw [x_L_law_L18] at h
    refine go_iload_n (pc := 18) dL_law_18 rfl ?_
    refine go_aload_n (pc := 19) dL_law_19 rfl ?_
    refine go_xlen (pc := 20) (n := n0) hn0 dL_law_20 ?_
    refine go_iconst (pc := 21) (v := (5 : Int32)) dL_law_21 (by decide) ?_
    refine go_isub (pc := 22) dL_law_22 ?_
    refine go_icmp_gt (pc := 23) (tgt := 1771) dL_law_23 (by decide) (fun e478 => ?_) (fun e478 => ?_)
    · replace h := (if_pos e478).symm.trans h
      refine go_iconst (pc := 1771) (v := (1 : Int32)) dL_law_1771 (by decide) ?_
      exact go_iret (pc := 1772) (Option.some.inj h).symm rfl dL_law_1772 rfl
    · replace h := (if_neg e478).symm.trans h
      refine go_aload_n (pc := 26) dL_law_26 rfl ?_
      refine go_iload_n (pc := 27) dL_law_27 rfl ?_
      obtain ⟨i1, h⟩ := g_gd h
      refine go_xld (pc := 28) (n := n0) (xs := xs0) hn0 hx0 (g_inb_ok i1) dL_law_28 ?_
      refine go_bipush (pc := 29) (v := (63 : Int32)) dL_law_29 (by decide) ?_
      refine go_iand (pc := 31) dL_law_31 ?_
      by_cases e427 : ((xs0 v3.toNatClampNeg) &&& (63 : Int32)) = (0 : Int32)
      · replace h := (if_pos e427).symm.trans h
        refine go_tabIn (pc := 32) (off := 220) (tgt := 252) dL_law_32 (by rw [e427]; decide) (by rw [e427]; decide) (by rw [e427]; decide) (by decide) ?_
        refine go_aload_n (pc := 252) dL_law_252 rfl ?_
        refine go_aload_n (pc := 253) dL_law_253 rfl ?_
        refine go_iload_n (pc := 254) dL_law_254 rfl ?_
        refine go_iconst (pc := 255) (v := (1 : Int32)) dL_law_255 (by decide) ?_
        refine go_iadd (pc := 256) dL_law_256 ?_
        obtain ⟨i2, h⟩ := g_gd h
        refine go_xld (pc := 257) (n := n0) (xs := xs0) hn0 hx0 (g_inb_ok i2) dL_law_257 ?_
        obtain ⟨u3, c4, h⟩ := g_bd h
        refine go_callV (pc := 258) (as := [.inl (xs0 (v3 + (1 : Int32)).toNatClampNeg)]) (st := []) (r := u3.1) (M1 := u3.2) (z_X8_feed hok  c4) cw_X8_feed ml_L_13 (show g_lay[0]? = some _ from rfl) rfl rfl (by decide) (Nat.le_of_ble_eq_true rfl) rfl dL_law_258 ?_
        refine go_aload_n (pc := 261) dL_law_261 rfl ?_
        refine go_aload_n (pc := 262) dL_law_262 rfl ?_
        refine go_iload_n (pc := 263) dL_law_263 rfl ?_
        refine go_iconst (pc := 264) (v := (1 : Int32)) dL_law_264 (by decide) ?_
        refine go_iadd (pc := 265) dL_law_265 ?_
        obtain ⟨i5, h⟩ := g_gd h
        refine go_xld (pc := 266) (n := n0) (xs := xs0) hn0 hx0 (g_inb_ok i5) dL_law_266 ?_
        obtain ⟨u6, c7, h⟩ := g_bd h
        refine go_callV (pc := 267) (as := [.inl (xs0 (v3 + (1 : Int32)).toNatClampNeg)]) (st := [.inl u3.1]) (r := u6.1) (M1 := u6.2) (z_X9_feed hok  c7) cw_X9_feed ml_L_17 (show g_lay[41]? = some _ from rfl) rfl rfl (by decide) (Nat.le_of_ble_eq_true rfl) rfl dL_law_267 ?_
        refine go_icmp_eq (pc := 270) (tgt := 1765) dL_law_270 (by decide) (fun e8 => ?_) (fun e8 => ?_)
        · replace h := (if_pos e8).symm.trans h
          refine go_iinc (pc := 1765) (v := (5 : Int32)) (lv' := [some (.inr 5000), some (.inr 0), some (.inr 41), some (.inl (v3 + (5 : Int32)))]) dL_law_1765 rfl (by decide) (by decide) rfl ?_
          refine go_goto (pc := 1768) (tgt := 18) dL_law_1768 (by decide) ?_
          exact go_to (ih _ _ h) (And.intro rfl (And.intro rfl (And.intro rfl (And.intro rfl trivial))))
        · replace h := (if_neg e8).symm.trans h
          refine go_iconst (pc := 273) (v := (0 : Int32)) dL_law_273 (by decide) ?_
          exact go_iret (pc := 274) (Option.some.inj h).symm rfl dL_law_274 rfl
      · replace h := (if_neg e427).symm.trans h
        by_cases e428 : ((xs0 v3.toNatClampNeg) &&& (63 : Int32)) = (1 : Int32)
        · replace h := (if_pos e428).symm.trans h
          refine go_tabIn (pc := 32) (off := 243) (tgt := 275) dL_law_32 (by rw [e428]; decide) (by rw [e428]; decide) (by rw [e428]; decide) (by decide) ?_
          refine go_aload_n (pc := 275) dL_law_275 rfl ?_
          obtain ⟨u9, c10, h⟩ := g_bd h
          refine go_callV (pc := 276) (as := []) (st := []) (r := u9.1) (M1 := u9.2) (z_X8_quay hok  c10) cw_X8_quay ml_L_18 (show g_lay[0]? = some _ from rfl) rfl rfl (by decide) (Nat.le_of_ble_eq_true rfl) rfl dL_law_276 ?_
          refine go_aload_n (pc := 279) dL_law_279 rfl ?_
          obtain ⟨u11, c12, h⟩ := g_bd h
          refine go_callV (pc := 280) (as := []) (st := [.inl u9.1]) (r := u11.1) (M1 := u11.2) (z_X9_quay hok  c12) cw_X9_quay ml_L_22 (show g_lay[41]? = some _ from rfl) rfl rfl (by decide) (Nat.le_of_ble_eq_true rfl) rfl dL_law_280 ?_
          refine go_icmp_eq (pc := 283) (tgt := 1765) dL_law_283 (by decide) (fun e13 => ?_) (fun e13 => ?_)
          · replace h := (if_pos e13).symm.trans h
            refine go_iinc (pc := 1765) (v := (5 : Int32)) (lv' := [some (.inr 5000), some (.inr 0), some (.inr 41), some (.inl (v3 + (5 : Int32)))]) dL_law_1765 rfl (by decide) (by decide) rfl ?_
            refine go_goto (pc := 1768) (tgt := 18) dL_law_1768 (by decide) ?_
            exact go_to (ih _ _ h) (And.intro rfl (And.intro rfl (And.intro rfl (And.intro rfl trivial))))
          · replace h := (if_neg e13).symm.trans h
            refine go_iconst (pc := 286) (v := (0 : Int32)) dL_law_286 (by decide) ?_
            exact go_iret (pc := 287) (Option.some.inj h).symm rfl dL_law_287 rfl
        · replace h := (if_neg e428).symm.trans h
          by_cases e429 : ((xs0 v3.toNatClampNeg) &&& (63 : Int32)) = (2 : Int32)
          · replace h := (if_pos e429).symm.trans h
            refine go_tabIn (pc := 32) (off := 256) (tgt := 288) dL_law_32 (by rw [e429]; decide) (by rw [e429]; decide) (by rw [e429]; decide) (by decide) ?_
            refine go_aload_n (pc := 288) dL_law_288 rfl ?_
            refine go_aload_n (pc := 289) dL_law_289 rfl ?_
            refine go_iload_n (pc := 290) dL_law_290 rfl ?_
            refine go_iconst (pc := 291) (v := (1 : Int32)) dL_law_291 (by decide) ?_
            refine go_iadd (pc := 292) dL_law_292 ?_
            obtain ⟨i14, h⟩ := g_gd h
            refine go_xld (pc := 293) (n := n0) (xs := xs0) hn0 hx0 (g_inb_ok i14) dL_law_293 ?_
            obtain ⟨u15, c16, h⟩ := g_bd h
            refine go_callV (pc := 294) (as := [.inl (xs0 (v3 + (1 : Int32)).toNatClampNeg)]) (st := []) (r := u15.1) (M1 := u15.2) (z_X8_tide hok  c16) cw_X8_tide ml_L_23 (show g_lay[0]? = some _ from rfl) rfl rfl (by decide) (Nat.le_of_ble_eq_true rfl) rfl dL_law_294 ?_
            refine go_aload_n (pc := 297) dL_law_297 rfl ?_
            refine go_aload_n (pc := 298) dL_law_298 rfl ?_
            refine go_iload_n (pc := 299) dL_law_299 rfl ?_
            refine go_iconst (pc := 300) (v := (1 : Int32)) dL_law_300 (by decide) ?_
            refine go_iadd (pc := 301) dL_law_301 ?_
            obtain ⟨i17, h⟩ := g_gd h
            refine go_xld (pc := 302) (n := n0) (xs := xs0) hn0 hx0 (g_inb_ok i17) dL_law_302 ?_
            obtain ⟨u18, c19, h⟩ := g_bd h
            refine go_callV (pc := 303) (as := [.inl (xs0 (v3 + (1 : Int32)).toNatClampNeg)]) (st := [.inl u15.1]) (r := u18.1) (M1 := u18.2) (z_X9_tide hok  c19) cw_X9_tide ml_L_26 (show g_lay[41]? = some _ from rfl) rfl rfl (by decide) (Nat.le_of_ble_eq_true rfl) rfl dL_law_303 ?_
            refine go_icmp_eq (pc := 306) (tgt := 1765) dL_law_306 (by decide) (fun e20 => ?_) (fun e20 => ?_)
            · replace h := (if_pos e20).symm.trans h
              refine go_iinc (pc := 1765) (v := (5 : Int32)) (lv' := [some (.inr 5000), some (.inr 0), some (.inr 41), some (.inl (v3 + (5 : Int32)))]) dL_law_1765 rfl (by decide) (by decide) rfl ?_
              refine go_goto (pc := 1768) (tgt := 18) dL_law_1768 (by decide) ?_
              exact go_to (ih _ _ h) (And.intro rfl (And.intro rfl (And.intro rfl (And.intro rfl trivial))))
            · replace h := (if_neg e20).symm.trans h
              refine go_iconst (pc := 309) (v := (0 : Int32)) dL_law_309 (by decide) ?_
              exact go_iret (pc := 310) (Option.some.inj h).symm rfl dL_law_310 rfl
          · replace h := (if_neg e429).symm.trans h
            by_cases e430 : ((xs0 v3.toNatClampNeg) &&& (63 : Int32)) = (3 : Int32)
            · replace h := (if_pos e430).symm.trans h
              refine go_tabIn (pc := 32) (off := 279) (tgt := 311) dL_law_32 (by rw [e430]; decide) (by rw [e430]; decide) (by rw [e430]; decide) (by decide) ?_
              refine go_aload_n (pc := 311) dL_law_311 rfl ?_
              refine go_aload_n (pc := 312) dL_law_312 rfl ?_
              refine go_iload_n (pc := 313) dL_law_313 rfl ?_
              refine go_iconst (pc := 314) (v := (1 : Int32)) dL_law_314 (by decide) ?_
              refine go_iadd (pc := 315) dL_law_315 ?_
              obtain ⟨i21, h⟩ := g_gd h
              refine go_xld (pc := 316) (n := n0) (xs := xs0) hn0 hx0 (g_inb_ok i21) dL_law_316 ?_
              obtain ⟨u22, c23, h⟩ := g_bd h
              refine go_callV (pc := 317) (as := [.inl (xs0 (v3 + (1 : Int32)).toNatClampNeg)]) (st := []) (r := u22.1) (M1 := u22.2) (z_X8_wind hok  c23) cw_X8_wind ml_L_27 (show g_lay[0]? = some _ from rfl) rfl rfl (by decide) (Nat.le_of_ble_eq_true rfl) rfl dL_law_317 ?_
              refine go_aload_n (pc := 320) dL_law_320 rfl ?_
              refine go_aload_n (pc := 321) dL_law_321 rfl ?_
              refine go_iload_n (pc := 322) dL_law_322 rfl ?_
              refine go_iconst (pc := 323) (v := (1 : Int32)) dL_law_323 (by decide) ?_
              refine go_iadd (pc := 324) dL_law_324 ?_
              obtain ⟨i24, h⟩ := g_gd h
              refine go_xld (pc := 325) (n := n0) (xs := xs0) hn0 hx0 (g_inb_ok i24) dL_law_325 ?_
              obtain ⟨u25, c26, h⟩ := g_bd h
              refine go_callV (pc := 326) (as := [.inl (xs0 (v3 + (1 : Int32)).toNatClampNeg)]) (st := [.inl u22.1]) (r := u25.1) (M1 := u25.2) (z_X9_wind hok  c26) cw_X9_wind ml_L_30 (show g_lay[41]? = some _ from rfl) rfl rfl (by decide) (Nat.le_of_ble_eq_true rfl) rfl dL_law_326 ?_
              refine go_icmp_eq (pc := 329) (tgt := 1765) dL_law_329 (by decide) (fun e27 => ?_) (fun e27 => ?_)
              · replace h := (if_pos e27).symm.trans h
                refine go_iinc (pc := 1765) (v := (5 : Int32)) (lv' := [some (.inr 5000), some (.inr 0), some (.inr 41), some (.inl (v3 + (5 : Int32)))]) dL_law_1765 rfl (by decide) (by decide) rfl ?_
                refine go_goto (pc := 1768) (tgt := 18) dL_law_1768 (by decide) ?_
                exact go_to (ih _ _ h) (And.intro rfl (And.intro rfl (And.intro rfl (And.intro rfl trivial))))
              · replace h := (if_neg e27).symm.trans h
                refine go_iconst (pc := 332) (v := (0 : Int32)) dL_law_332 (by decide) ?_
                exact go_iret (pc := 333) (Option.some.inj h).symm rfl dL_law_333 rfl
            · replace h := (if_neg e430).symm.trans h
              by_cases e431 : ((xs0 v3.toNatClampNeg) &&& (63 : Int32)) = (4 : Int32)
              · replace h := (if_pos e431).symm.trans h
                refine go_tabIn (pc := 32) (off := 302) (tgt := 334) dL_law_32 (by rw [e431]; decide) (by rw [e431]; decide) (by rw [e431]; decide) (by decide) ?_
                refine go_aload_n (pc := 334) dL_law_334 rfl ?_
                refine go_aload_n (pc := 335) dL_law_335 rfl ?_
                refine go_iload_n (pc := 336) dL_law_336 rfl ?_
                refine go_iconst (pc := 337) (v := (1 : Int32)) dL_law_337 (by decide) ?_
                refine go_iadd (pc := 338) dL_law_338 ?_
                obtain ⟨i28, h⟩ := g_gd h
                refine go_xld (pc := 339) (n := n0) (xs := xs0) hn0 hx0 (g_inb_ok i28) dL_law_339 ?_
                refine go_aload_n (pc := 340) dL_law_340 rfl ?_
                refine go_iload_n (pc := 341) dL_law_341 rfl ?_
                refine go_iconst (pc := 342) (v := (2 : Int32)) dL_law_342 (by decide) ?_
                refine go_iadd (pc := 343) dL_law_343 ?_
                obtain ⟨i29, h⟩ := g_gd h
                refine go_xld (pc := 344) (n := n0) (xs := xs0) hn0 hx0 (g_inb_ok i29) dL_law_344 ?_
                obtain ⟨u30, c31, h⟩ := g_bd h
                refine go_callV (pc := 345) (as := [.inl (xs0 (v3 + (1 : Int32)).toNatClampNeg), .inl (xs0 (v3 + (2 : Int32)).toNatClampNeg)]) (st := []) (r := u30.1) (M1 := u30.2) (z_X8_rises hok  c31) cw_X8_rises ml_L_31 (show g_lay[0]? = some _ from rfl) rfl rfl (by decide) (Nat.le_of_ble_eq_true rfl) rfl dL_law_345 ?_
                refine go_aload_n (pc := 348) dL_law_348 rfl ?_
                refine go_aload_n (pc := 349) dL_law_349 rfl ?_
                refine go_iload_n (pc := 350) dL_law_350 rfl ?_
                refine go_iconst (pc := 351) (v := (1 : Int32)) dL_law_351 (by decide) ?_
                refine go_iadd (pc := 352) dL_law_352 ?_
                obtain ⟨i32, h⟩ := g_gd h
                refine go_xld (pc := 353) (n := n0) (xs := xs0) hn0 hx0 (g_inb_ok i32) dL_law_353 ?_
                refine go_aload_n (pc := 354) dL_law_354 rfl ?_
                refine go_iload_n (pc := 355) dL_law_355 rfl ?_
                refine go_iconst (pc := 356) (v := (2 : Int32)) dL_law_356 (by decide) ?_
                refine go_iadd (pc := 357) dL_law_357 ?_
                obtain ⟨i33, h⟩ := g_gd h
                refine go_xld (pc := 358) (n := n0) (xs := xs0) hn0 hx0 (g_inb_ok i33) dL_law_358 ?_
                obtain ⟨u34, c35, h⟩ := g_bd h
                refine go_callV (pc := 359) (as := [.inl (xs0 (v3 + (1 : Int32)).toNatClampNeg), .inl (xs0 (v3 + (2 : Int32)).toNatClampNeg)]) (st := [.inl u30.1]) (r := u34.1) (M1 := u34.2) (z_X9_rises hok  c35) cw_X9_rises ml_L_35 (show g_lay[41]? = some _ from rfl) rfl rfl (by decide) (Nat.le_of_ble_eq_true rfl) rfl dL_law_359 ?_
                refine go_icmp_eq (pc := 362) (tgt := 1765) dL_law_362 (by decide) (fun e36 => ?_) (fun e36 => ?_)
                · replace h := (if_pos e36).symm.trans h
                  refine go_iinc (pc := 1765) (v := (5 : Int32)) (lv' := [some (.inr 5000), some (.inr 0), some (.inr 41), some (.inl (v3 + (5 : Int32)))]) dL_law_1765 rfl (by decide) (by decide) rfl ?_
                  refine go_goto (pc := 1768) (tgt := 18) dL_law_1768 (by decide) ?_
                  exact go_to (ih _ _ h) (And.intro rfl (And.intro rfl (And.intro rfl (And.intro rfl trivial))))
                · replace h := (if_neg e36).symm.trans h
                  refine go_iconst (pc := 365) (v := (0 : Int32)) dL_law_365 (by decide) ?_
                  exact go_iret (pc := 366) (Option.some.inj h).symm rfl dL_law_366 rfl
              · replace h := (if_neg e431).symm.trans h
                by_cases e432 : ((xs0 v3.toNatClampNeg) &&& (63 : Int32)) = (5 : Int32)
                · replace h := (if_pos e432).symm.trans h
                  refine go_tabIn (pc := 32) (off := 335) (tgt := 367) dL_law_32 (by rw [e432]; decide) (by rw [e432]; decide) (by rw [e432]; decide) (by decide) ?_
                  refine go_aload_n (pc := 367) dL_law_367 rfl ?_
                  refine go_aload_n (pc := 368) dL_law_368 rfl ?_
                  refine go_iload_n (pc := 369) dL_law_369 rfl ?_
                  refine go_iconst (pc := 370) (v := (1 : Int32)) dL_law_370 (by decide) ?_
                  refine go_iadd (pc := 371) dL_law_371 ?_
                  obtain ⟨i37, h⟩ := g_gd h
                  refine go_xld (pc := 372) (n := n0) (xs := xs0) hn0 hx0 (g_inb_ok i37) dL_law_372 ?_
                  refine go_aload_n (pc := 373) dL_law_373 rfl ?_
                  refine go_iload_n (pc := 374) dL_law_374 rfl ?_
                  refine go_iconst (pc := 375) (v := (2 : Int32)) dL_law_375 (by decide) ?_
                  refine go_iadd (pc := 376) dL_law_376 ?_
                  obtain ⟨i38, h⟩ := g_gd h
                  refine go_xld (pc := 377) (n := n0) (xs := xs0) hn0 hx0 (g_inb_ok i38) dL_law_377 ?_
                  obtain ⟨u39, c40, h⟩ := g_bd h
                  refine go_callV (pc := 378) (as := [.inl (xs0 (v3 + (1 : Int32)).toNatClampNeg), .inl (xs0 (v3 + (2 : Int32)).toNatClampNeg)]) (st := []) (r := u39.1) (M1 := u39.2) (z_X8_ring hok  c40) cw_X8_ring ml_L_36 (show g_lay[0]? = some _ from rfl) rfl rfl (by decide) (Nat.le_of_ble_eq_true rfl) rfl dL_law_378 ?_
                  refine go_aload_n (pc := 381) dL_law_381 rfl ?_
                  refine go_aload_n (pc := 382) dL_law_382 rfl ?_
                  refine go_iload_n (pc := 383) dL_law_383 rfl ?_
                  refine go_iconst (pc := 384) (v := (1 : Int32)) dL_law_384 (by decide) ?_
                  refine go_iadd (pc := 385) dL_law_385 ?_
                  obtain ⟨i41, h⟩ := g_gd h
                  refine go_xld (pc := 386) (n := n0) (xs := xs0) hn0 hx0 (g_inb_ok i41) dL_law_386 ?_
                  refine go_aload_n (pc := 387) dL_law_387 rfl ?_
                  refine go_iload_n (pc := 388) dL_law_388 rfl ?_
                  refine go_iconst (pc := 389) (v := (2 : Int32)) dL_law_389 (by decide) ?_
                  refine go_iadd (pc := 390) dL_law_390 ?_
                  obtain ⟨i42, h⟩ := g_gd h
                  refine go_xld (pc := 391) (n := n0) (xs := xs0) hn0 hx0 (g_inb_ok i42) dL_law_391 ?_
                  obtain ⟨u43, c44, h⟩ := g_bd h
                  refine go_callV (pc := 392) (as := [.inl (xs0 (v3 + (1 : Int32)).toNatClampNeg), .inl (xs0 (v3 + (2 : Int32)).toNatClampNeg)]) (st := [.inl u39.1]) (r := u43.1) (M1 := u43.2) (z_X9_ring hok  c44) cw_X9_ring ml_L_39 (show g_lay[41]? = some _ from rfl) rfl rfl (by decide) (Nat.le_of_ble_eq_true rfl) rfl dL_law_392 ?_
                  refine go_icmp_eq (pc := 395) (tgt := 1765) dL_law_395 (by decide) (fun e45 => ?_) (fun e45 => ?_)
                  · replace h := (if_pos e45).symm.trans h
                    refine go_iinc (pc := 1765) (v := (5 : Int32)) (lv' := [some (.inr 5000), some (.inr 0), some (.inr 41), some (.inl (v3 + (5 : Int32)))]) dL_law_1765 rfl (by decide) (by decide) rfl ?_
                    refine go_goto (pc := 1768) (tgt := 18) dL_law_1768 (by decide) ?_
                    exact go_to (ih _ _ h) (And.intro rfl (And.intro rfl (And.intro rfl (And.intro rfl trivial))))
                  · replace h := (if_neg e45).symm.trans h
                    refine go_iconst (pc := 398) (v := (0 : Int32)) dL_law_398 (by decide) ?_
                    exact go_iret (pc := 399) (Option.some.inj h).symm rfl dL_law_399 rfl
                · replace h := (if_neg e432).symm.trans h
                  by_cases e433 : ((xs0 v3.toNatClampNeg) &&& (63 : Int32)) = (6 : Int32)
                  · replace h := (if_pos e433).symm.trans h
                    refine go_tabIn (pc := 32) (off := 368) (tgt := 400) dL_law_32 (by rw [e433]; decide) (by rw [e433]; decide) (by rw [e433]; decide) (by decide) ?_
                    refine go_aload_n (pc := 400) dL_law_400 rfl ?_
                    refine go_aload_n (pc := 401) dL_law_401 rfl ?_
                    refine go_iload_n (pc := 402) dL_law_402 rfl ?_
                    refine go_iconst (pc := 403) (v := (1 : Int32)) dL_law_403 (by decide) ?_
                    refine go_iadd (pc := 404) dL_law_404 ?_
                    obtain ⟨i46, h⟩ := g_gd h
                    refine go_xld (pc := 405) (n := n0) (xs := xs0) hn0 hx0 (g_inb_ok i46) dL_law_405 ?_
                    refine go_aload_n (pc := 406) dL_law_406 rfl ?_
                    refine go_iload_n (pc := 407) dL_law_407 rfl ?_
                    refine go_iconst (pc := 408) (v := (2 : Int32)) dL_law_408 (by decide) ?_
                    refine go_iadd (pc := 409) dL_law_409 ?_
                    obtain ⟨i47, h⟩ := g_gd h
                    refine go_xld (pc := 410) (n := n0) (xs := xs0) hn0 hx0 (g_inb_ok i47) dL_law_410 ?_
                    obtain ⟨u48, c49, h⟩ := g_bd h
                    refine go_callV (pc := 411) (as := [.inl (xs0 (v3 + (1 : Int32)).toNatClampNeg), .inl (xs0 (v3 + (2 : Int32)).toNatClampNeg)]) (st := []) (r := u48.1) (M1 := u48.2) (z_X8_boat hok  c49) cw_X8_boat ml_L_40 (show g_lay[0]? = some _ from rfl) rfl rfl (by decide) (Nat.le_of_ble_eq_true rfl) rfl dL_law_411 ?_
                    refine go_aload_n (pc := 414) dL_law_414 rfl ?_
                    refine go_aload_n (pc := 415) dL_law_415 rfl ?_
                    refine go_iload_n (pc := 416) dL_law_416 rfl ?_
                    refine go_iconst (pc := 417) (v := (1 : Int32)) dL_law_417 (by decide) ?_
                    refine go_iadd (pc := 418) dL_law_418 ?_
                    obtain ⟨i50, h⟩ := g_gd h
                    refine go_xld (pc := 419) (n := n0) (xs := xs0) hn0 hx0 (g_inb_ok i50) dL_law_419 ?_
                    refine go_aload_n (pc := 420) dL_law_420 rfl ?_
                    refine go_iload_n (pc := 421) dL_law_421 rfl ?_
                    refine go_iconst (pc := 422) (v := (2 : Int32)) dL_law_422 (by decide) ?_
                    refine go_iadd (pc := 423) dL_law_423 ?_
                    obtain ⟨i51, h⟩ := g_gd h
                    refine go_xld (pc := 424) (n := n0) (xs := xs0) hn0 hx0 (g_inb_ok i51) dL_law_424 ?_
                    obtain ⟨u52, c53, h⟩ := g_bd h
                    refine go_callV (pc := 425) (as := [.inl (xs0 (v3 + (1 : Int32)).toNatClampNeg), .inl (xs0 (v3 + (2 : Int32)).toNatClampNeg)]) (st := [.inl u48.1]) (r := u52.1) (M1 := u52.2) (z_X9_boat hok  c53) cw_X9_boat ml_L_43 (show g_lay[41]? = some _ from rfl) rfl rfl (by decide) (Nat.le_of_ble_eq_true rfl) rfl dL_law_425 ?_
                    refine go_icmp_eq (pc := 428) (tgt := 1765) dL_law_428 (by decide) (fun e54 => ?_) (fun e54 => ?_)
                    · replace h := (if_pos e54).symm.trans h
                      refine go_iinc (pc := 1765) (v := (5 : Int32)) (lv' := [some (.inr 5000), some (.inr 0), some (.inr 41), some (.inl (v3 + (5 : Int32)))]) dL_law_1765 rfl (by decide) (by decide) rfl ?_
                      refine go_goto (pc := 1768) (tgt := 18) dL_law_1768 (by decide) ?_
                      exact go_to (ih _ _ h) (And.intro rfl (And.intro rfl (And.intro rfl (And.intro rfl trivial))))
                    · replace h := (if_neg e54).symm.trans h
                      refine go_iconst (pc := 431) (v := (0 : Int32)) dL_law_431 (by decide) ?_
                      exact go_iret (pc := 432) (Option.some.inj h).symm rfl dL_law_432 rfl
                  · replace h := (if_neg e433).symm.trans h
                    by_cases e434 : ((xs0 v3.toNatClampNeg) &&& (63 : Int32)) = (7 : Int32)
                    · replace h := (if_pos e434).symm.trans h
                      refine go_tabIn (pc := 32) (off := 401) (tgt := 433) dL_law_32 (by rw [e434]; decide) (by rw [e434]; decide) (by rw [e434]; decide) (by decide) ?_
                      refine go_aload_n (pc := 433) dL_law_433 rfl ?_
                      refine go_aload_n (pc := 434) dL_law_434 rfl ?_
                      refine go_iload_n (pc := 435) dL_law_435 rfl ?_
                      refine go_iconst (pc := 436) (v := (1 : Int32)) dL_law_436 (by decide) ?_
                      refine go_iadd (pc := 437) dL_law_437 ?_
                      obtain ⟨i55, h⟩ := g_gd h
                      refine go_xld (pc := 438) (n := n0) (xs := xs0) hn0 hx0 (g_inb_ok i55) dL_law_438 ?_
                      refine go_aload_n (pc := 439) dL_law_439 rfl ?_
                      refine go_iload_n (pc := 440) dL_law_440 rfl ?_
                      refine go_iconst (pc := 441) (v := (2 : Int32)) dL_law_441 (by decide) ?_
                      refine go_iadd (pc := 442) dL_law_442 ?_
                      obtain ⟨i56, h⟩ := g_gd h
                      refine go_xld (pc := 443) (n := n0) (xs := xs0) hn0 hx0 (g_inb_ok i56) dL_law_443 ?_
                      obtain ⟨u57, c58, h⟩ := g_bd h
                      refine go_callV (pc := 444) (as := [.inl (xs0 (v3 + (1 : Int32)).toNatClampNeg), .inl (xs0 (v3 + (2 : Int32)).toNatClampNeg)]) (st := []) (r := u57.1) (M1 := u57.2) (z_X8_pay hok  c58) cw_X8_pay ml_L_44 (show g_lay[0]? = some _ from rfl) rfl rfl (by decide) (Nat.le_of_ble_eq_true rfl) rfl dL_law_444 ?_
                      refine go_aload_n (pc := 447) dL_law_447 rfl ?_
                      refine go_aload_n (pc := 448) dL_law_448 rfl ?_
                      refine go_iload_n (pc := 449) dL_law_449 rfl ?_
                      refine go_iconst (pc := 450) (v := (1 : Int32)) dL_law_450 (by decide) ?_
                      refine go_iadd (pc := 451) dL_law_451 ?_
                      obtain ⟨i59, h⟩ := g_gd h
                      refine go_xld (pc := 452) (n := n0) (xs := xs0) hn0 hx0 (g_inb_ok i59) dL_law_452 ?_
                      refine go_aload_n (pc := 453) dL_law_453 rfl ?_
                      refine go_iload_n (pc := 454) dL_law_454 rfl ?_
                      refine go_iconst (pc := 455) (v := (2 : Int32)) dL_law_455 (by decide) ?_
                      refine go_iadd (pc := 456) dL_law_456 ?_
                      obtain ⟨i60, h⟩ := g_gd h
                      refine go_xld (pc := 457) (n := n0) (xs := xs0) hn0 hx0 (g_inb_ok i60) dL_law_457 ?_
                      obtain ⟨u61, c62, h⟩ := g_bd h
                      refine go_callV (pc := 458) (as := [.inl (xs0 (v3 + (1 : Int32)).toNatClampNeg), .inl (xs0 (v3 + (2 : Int32)).toNatClampNeg)]) (st := [.inl u57.1]) (r := u61.1) (M1 := u61.2) (z_X9_pay hok  c62) cw_X9_pay ml_L_47 (show g_lay[41]? = some _ from rfl) rfl rfl (by decide) (Nat.le_of_ble_eq_true rfl) rfl dL_law_458 ?_
                      refine go_icmp_eq (pc := 461) (tgt := 1765) dL_law_461 (by decide) (fun e63 => ?_) (fun e63 => ?_)
                      · replace h := (if_pos e63).symm.trans h
                        refine go_iinc (pc := 1765) (v := (5 : Int32)) (lv' := [some (.inr 5000), some (.inr 0), some (.inr 41), some (.inl (v3 + (5 : Int32)))]) dL_law_1765 rfl (by decide) (by decide) rfl ?_
                        refine go_goto (pc := 1768) (tgt := 18) dL_law_1768 (by decide) ?_
                        exact go_to (ih _ _ h) (And.intro rfl (And.intro rfl (And.intro rfl (And.intro rfl trivial))))
                      · replace h := (if_neg e63).symm.trans h
                        refine go_iconst (pc := 464) (v := (0 : Int32)) dL_law_464 (by decide) ?_
                        exact go_iret (pc := 465) (Option.some.inj h).symm rfl dL_law_465 rfl
                    · replace h := (if_neg e434).symm.trans h
                      by_cases e435 : ((xs0 v3.toNatClampNeg) &&& (63 : Int32)) = (8 : Int32)
                      · replace h := (if_pos e435).symm.trans h
                        refine go_tabIn (pc := 32) (off := 434) (tgt := 466) dL_law_32 (by rw [e435]; decide) (by rw [e435]; decide) (by rw [e435]; decide) (by decide) ?_
                        refine go_aload_n (pc := 466) dL_law_466 rfl ?_
                        refine go_aload_n (pc := 467) dL_law_467 rfl ?_
                        refine go_iload_n (pc := 468) dL_law_468 rfl ?_
                        refine go_iconst (pc := 469) (v := (1 : Int32)) dL_law_469 (by decide) ?_
                        refine go_iadd (pc := 470) dL_law_470 ?_
                        obtain ⟨i64, h⟩ := g_gd h
                        refine go_xld (pc := 471) (n := n0) (xs := xs0) hn0 hx0 (g_inb_ok i64) dL_law_471 ?_
                        refine go_aload_n (pc := 472) dL_law_472 rfl ?_
                        refine go_iload_n (pc := 473) dL_law_473 rfl ?_
                        refine go_iconst (pc := 474) (v := (2 : Int32)) dL_law_474 (by decide) ?_
                        refine go_iadd (pc := 475) dL_law_475 ?_
                        obtain ⟨i65, h⟩ := g_gd h
                        refine go_xld (pc := 476) (n := n0) (xs := xs0) hn0 hx0 (g_inb_ok i65) dL_law_476 ?_
                        obtain ⟨u66, c67, h⟩ := g_bd h
                        refine go_callV (pc := 477) (as := [.inl (xs0 (v3 + (1 : Int32)).toNatClampNeg), .inl (xs0 (v3 + (2 : Int32)).toNatClampNeg)]) (st := []) (r := u66.1) (M1 := u66.2) (z_X8_tie hok  c67) cw_X8_tie ml_L_48 (show g_lay[0]? = some _ from rfl) rfl rfl (by decide) (Nat.le_of_ble_eq_true rfl) rfl dL_law_477 ?_
                        refine go_aload_n (pc := 480) dL_law_480 rfl ?_
                        refine go_aload_n (pc := 481) dL_law_481 rfl ?_
                        refine go_iload_n (pc := 482) dL_law_482 rfl ?_
                        refine go_iconst (pc := 483) (v := (1 : Int32)) dL_law_483 (by decide) ?_
                        refine go_iadd (pc := 484) dL_law_484 ?_
                        obtain ⟨i68, h⟩ := g_gd h
                        refine go_xld (pc := 485) (n := n0) (xs := xs0) hn0 hx0 (g_inb_ok i68) dL_law_485 ?_
                        refine go_aload_n (pc := 486) dL_law_486 rfl ?_
                        refine go_iload_n (pc := 487) dL_law_487 rfl ?_
                        refine go_iconst (pc := 488) (v := (2 : Int32)) dL_law_488 (by decide) ?_
                        refine go_iadd (pc := 489) dL_law_489 ?_
                        obtain ⟨i69, h⟩ := g_gd h
                        refine go_xld (pc := 490) (n := n0) (xs := xs0) hn0 hx0 (g_inb_ok i69) dL_law_490 ?_
                        obtain ⟨u70, c71, h⟩ := g_bd h
                        refine go_callV (pc := 491) (as := [.inl (xs0 (v3 + (1 : Int32)).toNatClampNeg), .inl (xs0 (v3 + (2 : Int32)).toNatClampNeg)]) (st := [.inl u66.1]) (r := u70.1) (M1 := u70.2) (z_X9_tie hok  c71) cw_X9_tie ml_L_51 (show g_lay[41]? = some _ from rfl) rfl rfl (by decide) (Nat.le_of_ble_eq_true rfl) rfl dL_law_491 ?_
                        refine go_icmp_eq (pc := 494) (tgt := 1765) dL_law_494 (by decide) (fun e72 => ?_) (fun e72 => ?_)
                        · replace h := (if_pos e72).symm.trans h
                          refine go_iinc (pc := 1765) (v := (5 : Int32)) (lv' := [some (.inr 5000), some (.inr 0), some (.inr 41), some (.inl (v3 + (5 : Int32)))]) dL_law_1765 rfl (by decide) (by decide) rfl ?_
                          refine go_goto (pc := 1768) (tgt := 18) dL_law_1768 (by decide) ?_
                          exact go_to (ih _ _ h) (And.intro rfl (And.intro rfl (And.intro rfl (And.intro rfl trivial))))
                        · replace h := (if_neg e72).symm.trans h
                          refine go_iconst (pc := 497) (v := (0 : Int32)) dL_law_497 (by decide) ?_
                          exact go_iret (pc := 498) (Option.some.inj h).symm rfl dL_law_498 rfl
                      · replace h := (if_neg e435).symm.trans h
                        by_cases e436 : ((xs0 v3.toNatClampNeg) &&& (63 : Int32)) = (9 : Int32)
                        · replace h := (if_pos e436).symm.trans h
                          refine go_tabIn (pc := 32) (off := 467) (tgt := 499) dL_law_32 (by rw [e436]; decide) (by rw [e436]; decide) (by rw [e436]; decide) (by decide) ?_
                          refine go_aload_n (pc := 499) dL_law_499 rfl ?_
                          refine go_aload_n (pc := 500) dL_law_500 rfl ?_
                          refine go_iload_n (pc := 501) dL_law_501 rfl ?_
                          refine go_iconst (pc := 502) (v := (1 : Int32)) dL_law_502 (by decide) ?_
                          refine go_iadd (pc := 503) dL_law_503 ?_
                          obtain ⟨i73, h⟩ := g_gd h
                          refine go_xld (pc := 504) (n := n0) (xs := xs0) hn0 hx0 (g_inb_ok i73) dL_law_504 ?_
                          refine go_aload_n (pc := 505) dL_law_505 rfl ?_
                          refine go_iload_n (pc := 506) dL_law_506 rfl ?_
                          refine go_iconst (pc := 507) (v := (2 : Int32)) dL_law_507 (by decide) ?_
                          refine go_iadd (pc := 508) dL_law_508 ?_
                          obtain ⟨i74, h⟩ := g_gd h
                          refine go_xld (pc := 509) (n := n0) (xs := xs0) hn0 hx0 (g_inb_ok i74) dL_law_509 ?_
                          obtain ⟨u75, c76, h⟩ := g_bd h
                          refine go_callV (pc := 510) (as := [.inl (xs0 (v3 + (1 : Int32)).toNatClampNeg), .inl (xs0 (v3 + (2 : Int32)).toNatClampNeg)]) (st := []) (r := u75.1) (M1 := u75.2) (z_X8_set hok  c76) cw_X8_set ml_L_52 (show g_lay[0]? = some _ from rfl) rfl rfl (by decide) (Nat.le_of_ble_eq_true rfl) rfl dL_law_510 ?_
                          refine go_aload_n (pc := 513) dL_law_513 rfl ?_
                          refine go_aload_n (pc := 514) dL_law_514 rfl ?_
                          refine go_iload_n (pc := 515) dL_law_515 rfl ?_
                          refine go_iconst (pc := 516) (v := (1 : Int32)) dL_law_516 (by decide) ?_
                          refine go_iadd (pc := 517) dL_law_517 ?_
                          obtain ⟨i77, h⟩ := g_gd h
                          refine go_xld (pc := 518) (n := n0) (xs := xs0) hn0 hx0 (g_inb_ok i77) dL_law_518 ?_
                          refine go_aload_n (pc := 519) dL_law_519 rfl ?_
                          refine go_iload_n (pc := 520) dL_law_520 rfl ?_
                          refine go_iconst (pc := 521) (v := (2 : Int32)) dL_law_521 (by decide) ?_
                          refine go_iadd (pc := 522) dL_law_522 ?_
                          obtain ⟨i78, h⟩ := g_gd h
                          refine go_xld (pc := 523) (n := n0) (xs := xs0) hn0 hx0 (g_inb_ok i78) dL_law_523 ?_
                          obtain ⟨u79, c80, h⟩ := g_bd h
                          refine go_callV (pc := 524) (as := [.inl (xs0 (v3 + (1 : Int32)).toNatClampNeg), .inl (xs0 (v3 + (2 : Int32)).toNatClampNeg)]) (st := [.inl u75.1]) (r := u79.1) (M1 := u79.2) (z_X9_set hok  c80) cw_X9_set ml_L_55 (show g_lay[41]? = some _ from rfl) rfl rfl (by decide) (Nat.le_of_ble_eq_true rfl) rfl dL_law_524 ?_
                          refine go_icmp_eq (pc := 527) (tgt := 1765) dL_law_527 (by decide) (fun e81 => ?_) (fun e81 => ?_)
                          · replace h := (if_pos e81).symm.trans h
                            refine go_iinc (pc := 1765) (v := (5 : Int32)) (lv' := [some (.inr 5000), some (.inr 0), some (.inr 41), some (.inl (v3 + (5 : Int32)))]) dL_law_1765 rfl (by decide) (by decide) rfl ?_
                            refine go_goto (pc := 1768) (tgt := 18) dL_law_1768 (by decide) ?_
                            exact go_to (ih _ _ h) (And.intro rfl (And.intro rfl (And.intro rfl (And.intro rfl trivial))))
                          · replace h := (if_neg e81).symm.trans h
                            refine go_iconst (pc := 530) (v := (0 : Int32)) dL_law_530 (by decide) ?_
                            exact go_iret (pc := 531) (Option.some.inj h).symm rfl dL_law_531 rfl
                        · replace h := (if_neg e436).symm.trans h
                          by_cases e437 : ((xs0 v3.toNatClampNeg) &&& (63 : Int32)) = (10 : Int32)
                          · replace h := (if_pos e437).symm.trans h
                            refine go_tabIn (pc := 32) (off := 500) (tgt := 532) dL_law_32 (by rw [e437]; decide) (by rw [e437]; decide) (by rw [e437]; decide) (by decide) ?_
                            refine go_aload_n (pc := 532) dL_law_532 rfl ?_
                            obtain ⟨u82, c83, h⟩ := g_bd h
                            refine go_callV (pc := 533) (as := []) (st := []) (r := u82.1) (M1 := u82.2) (z_X8_hour hok  c83) cw_X8_hour ml_L_56 (show g_lay[0]? = some _ from rfl) rfl rfl (by decide) (Nat.le_of_ble_eq_true rfl) rfl dL_law_533 ?_
                            refine go_aload_n (pc := 536) dL_law_536 rfl ?_
                            obtain ⟨u84, c85, h⟩ := g_bd h
                            refine go_callV (pc := 537) (as := []) (st := [.inl u82.1]) (r := u84.1) (M1 := u84.2) (z_X9_hour hok  c85) cw_X9_hour ml_L_59 (show g_lay[41]? = some _ from rfl) rfl rfl (by decide) (Nat.le_of_ble_eq_true rfl) rfl dL_law_537 ?_
                            refine go_icmp_eq (pc := 540) (tgt := 1765) dL_law_540 (by decide) (fun e86 => ?_) (fun e86 => ?_)
                            · replace h := (if_pos e86).symm.trans h
                              refine go_iinc (pc := 1765) (v := (5 : Int32)) (lv' := [some (.inr 5000), some (.inr 0), some (.inr 41), some (.inl (v3 + (5 : Int32)))]) dL_law_1765 rfl (by decide) (by decide) rfl ?_
                              refine go_goto (pc := 1768) (tgt := 18) dL_law_1768 (by decide) ?_
                              exact go_to (ih _ _ h) (And.intro rfl (And.intro rfl (And.intro rfl (And.intro rfl trivial))))
                            · replace h := (if_neg e86).symm.trans h
                              refine go_iconst (pc := 543) (v := (0 : Int32)) dL_law_543 (by decide) ?_
                              exact go_iret (pc := 544) (Option.some.inj h).symm rfl dL_law_544 rfl
                          · replace h := (if_neg e437).symm.trans h
                            by_cases e438 : ((xs0 v3.toNatClampNeg) &&& (63 : Int32)) = (11 : Int32)
                            · replace h := (if_pos e438).symm.trans h
                              refine go_tabIn (pc := 32) (off := 513) (tgt := 545) dL_law_32 (by rw [e438]; decide) (by rw [e438]; decide) (by rw [e438]; decide) (by decide) ?_
                              refine go_aload_n (pc := 545) dL_law_545 rfl ?_
                              refine go_aload_n (pc := 546) dL_law_546 rfl ?_
                              refine go_iload_n (pc := 547) dL_law_547 rfl ?_
                              refine go_iconst (pc := 548) (v := (1 : Int32)) dL_law_548 (by decide) ?_
                              refine go_iadd (pc := 549) dL_law_549 ?_
                              obtain ⟨i87, h⟩ := g_gd h
                              refine go_xld (pc := 550) (n := n0) (xs := xs0) hn0 hx0 (g_inb_ok i87) dL_law_550 ?_
                              refine go_aload_n (pc := 551) dL_law_551 rfl ?_
                              refine go_iload_n (pc := 552) dL_law_552 rfl ?_
                              refine go_iconst (pc := 553) (v := (2 : Int32)) dL_law_553 (by decide) ?_
                              refine go_iadd (pc := 554) dL_law_554 ?_
                              obtain ⟨i88, h⟩ := g_gd h
                              refine go_xld (pc := 555) (n := n0) (xs := xs0) hn0 hx0 (g_inb_ok i88) dL_law_555 ?_
                              obtain ⟨u89, c90, h⟩ := g_bd h
                              refine go_callV (pc := 556) (as := [.inl (xs0 (v3 + (1 : Int32)).toNatClampNeg), .inl (xs0 (v3 + (2 : Int32)).toNatClampNeg)]) (st := []) (r := u89.1) (M1 := u89.2) (z_X8_needs hok  c90) cw_X8_needs ml_L_60 (show g_lay[0]? = some _ from rfl) rfl rfl (by decide) (Nat.le_of_ble_eq_true rfl) rfl dL_law_556 ?_
                              refine go_aload_n (pc := 559) dL_law_559 rfl ?_
                              refine go_aload_n (pc := 560) dL_law_560 rfl ?_
                              refine go_iload_n (pc := 561) dL_law_561 rfl ?_
                              refine go_iconst (pc := 562) (v := (1 : Int32)) dL_law_562 (by decide) ?_
                              refine go_iadd (pc := 563) dL_law_563 ?_
                              obtain ⟨i91, h⟩ := g_gd h
                              refine go_xld (pc := 564) (n := n0) (xs := xs0) hn0 hx0 (g_inb_ok i91) dL_law_564 ?_
                              refine go_aload_n (pc := 565) dL_law_565 rfl ?_
                              refine go_iload_n (pc := 566) dL_law_566 rfl ?_
                              refine go_iconst (pc := 567) (v := (2 : Int32)) dL_law_567 (by decide) ?_
                              refine go_iadd (pc := 568) dL_law_568 ?_
                              obtain ⟨i92, h⟩ := g_gd h
                              refine go_xld (pc := 569) (n := n0) (xs := xs0) hn0 hx0 (g_inb_ok i92) dL_law_569 ?_
                              obtain ⟨u93, c94, h⟩ := g_bd h
                              refine go_callV (pc := 570) (as := [.inl (xs0 (v3 + (1 : Int32)).toNatClampNeg), .inl (xs0 (v3 + (2 : Int32)).toNatClampNeg)]) (st := [.inl u89.1]) (r := u93.1) (M1 := u93.2) (z_X9_needs hok  c94) cw_X9_needs ml_L_63 (show g_lay[41]? = some _ from rfl) rfl rfl (by decide) (Nat.le_of_ble_eq_true rfl) rfl dL_law_570 ?_
                              refine go_icmp_eq (pc := 573) (tgt := 1765) dL_law_573 (by decide) (fun e95 => ?_) (fun e95 => ?_)
                              · replace h := (if_pos e95).symm.trans h
                                refine go_iinc (pc := 1765) (v := (5 : Int32)) (lv' := [some (.inr 5000), some (.inr 0), some (.inr 41), some (.inl (v3 + (5 : Int32)))]) dL_law_1765 rfl (by decide) (by decide) rfl ?_
                                refine go_goto (pc := 1768) (tgt := 18) dL_law_1768 (by decide) ?_
                                exact go_to (ih _ _ h) (And.intro rfl (And.intro rfl (And.intro rfl (And.intro rfl trivial))))
                              · replace h := (if_neg e95).symm.trans h
                                refine go_iconst (pc := 576) (v := (0 : Int32)) dL_law_576 (by decide) ?_
                                exact go_iret (pc := 577) (Option.some.inj h).symm rfl dL_law_577 rfl
                            · replace h := (if_neg e438).symm.trans h
                              by_cases e439 : ((xs0 v3.toNatClampNeg) &&& (63 : Int32)) = (12 : Int32)
                              · replace h := (if_pos e439).symm.trans h
                                refine go_tabIn (pc := 32) (off := 546) (tgt := 578) dL_law_32 (by rw [e439]; decide) (by rw [e439]; decide) (by rw [e439]; decide) (by decide) ?_
                                refine go_aload_n (pc := 578) dL_law_578 rfl ?_
                                refine go_aload_n (pc := 579) dL_law_579 rfl ?_
                                refine go_iload_n (pc := 580) dL_law_580 rfl ?_
                                refine go_iconst (pc := 581) (v := (1 : Int32)) dL_law_581 (by decide) ?_
                                refine go_iadd (pc := 582) dL_law_582 ?_
                                obtain ⟨i96, h⟩ := g_gd h
                                refine go_xld (pc := 583) (n := n0) (xs := xs0) hn0 hx0 (g_inb_ok i96) dL_law_583 ?_
                                refine go_aload_n (pc := 584) dL_law_584 rfl ?_
                                refine go_iload_n (pc := 585) dL_law_585 rfl ?_
                                refine go_iconst (pc := 586) (v := (2 : Int32)) dL_law_586 (by decide) ?_
                                refine go_iadd (pc := 587) dL_law_587 ?_
                                obtain ⟨i97, h⟩ := g_gd h
                                refine go_xld (pc := 588) (n := n0) (xs := xs0) hn0 hx0 (g_inb_ok i97) dL_law_588 ?_
                                obtain ⟨u98, c99, h⟩ := g_bd h
                                refine go_callV (pc := 589) (as := [.inl (xs0 (v3 + (1 : Int32)).toNatClampNeg), .inl (xs0 (v3 + (2 : Int32)).toNatClampNeg)]) (st := []) (r := u98.1) (M1 := u98.2) (z_X8_out hok  c99) cw_X8_out ml_L_64 (show g_lay[0]? = some _ from rfl) rfl rfl (by decide) (Nat.le_of_ble_eq_true rfl) rfl dL_law_589 ?_
                                refine go_aload_n (pc := 592) dL_law_592 rfl ?_
                                refine go_aload_n (pc := 593) dL_law_593 rfl ?_
                                refine go_iload_n (pc := 594) dL_law_594 rfl ?_
                                refine go_iconst (pc := 595) (v := (1 : Int32)) dL_law_595 (by decide) ?_
                                refine go_iadd (pc := 596) dL_law_596 ?_
                                obtain ⟨i100, h⟩ := g_gd h
                                refine go_xld (pc := 597) (n := n0) (xs := xs0) hn0 hx0 (g_inb_ok i100) dL_law_597 ?_
                                refine go_aload_n (pc := 598) dL_law_598 rfl ?_
                                refine go_iload_n (pc := 599) dL_law_599 rfl ?_
                                refine go_iconst (pc := 600) (v := (2 : Int32)) dL_law_600 (by decide) ?_
                                refine go_iadd (pc := 601) dL_law_601 ?_
                                obtain ⟨i101, h⟩ := g_gd h
                                refine go_xld (pc := 602) (n := n0) (xs := xs0) hn0 hx0 (g_inb_ok i101) dL_law_602 ?_
                                obtain ⟨u102, c103, h⟩ := g_bd h
                                refine go_callV (pc := 603) (as := [.inl (xs0 (v3 + (1 : Int32)).toNatClampNeg), .inl (xs0 (v3 + (2 : Int32)).toNatClampNeg)]) (st := [.inl u98.1]) (r := u102.1) (M1 := u102.2) (z_X9_out hok  c103) cw_X9_out ml_L_67 (show g_lay[41]? = some _ from rfl) rfl rfl (by decide) (Nat.le_of_ble_eq_true rfl) rfl dL_law_603 ?_
                                refine go_icmp_eq (pc := 606) (tgt := 1765) dL_law_606 (by decide) (fun e104 => ?_) (fun e104 => ?_)
                                · replace h := (if_pos e104).symm.trans h
                                  refine go_iinc (pc := 1765) (v := (5 : Int32)) (lv' := [some (.inr 5000), some (.inr 0), some (.inr 41), some (.inl (v3 + (5 : Int32)))]) dL_law_1765 rfl (by decide) (by decide) rfl ?_
                                  refine go_goto (pc := 1768) (tgt := 18) dL_law_1768 (by decide) ?_
                                  exact go_to (ih _ _ h) (And.intro rfl (And.intro rfl (And.intro rfl (And.intro rfl trivial))))
                                · replace h := (if_neg e104).symm.trans h
                                  refine go_iconst (pc := 609) (v := (0 : Int32)) dL_law_609 (by decide) ?_
                                  exact go_iret (pc := 610) (Option.some.inj h).symm rfl dL_law_610 rfl
                              · replace h := (if_neg e439).symm.trans h
                                by_cases e440 : ((xs0 v3.toNatClampNeg) &&& (63 : Int32)) = (13 : Int32)
                                · replace h := (if_pos e440).symm.trans h
                                  refine go_tabIn (pc := 32) (off := 579) (tgt := 611) dL_law_32 (by rw [e440]; decide) (by rw [e440]; decide) (by rw [e440]; decide) (by decide) ?_
                                  refine go_aload_n (pc := 611) dL_law_611 rfl ?_
                                  refine go_aload_n (pc := 612) dL_law_612 rfl ?_
                                  refine go_iload_n (pc := 613) dL_law_613 rfl ?_
                                  refine go_iconst (pc := 614) (v := (1 : Int32)) dL_law_614 (by decide) ?_
                                  refine go_iadd (pc := 615) dL_law_615 ?_
                                  obtain ⟨i105, h⟩ := g_gd h
                                  refine go_xld (pc := 616) (n := n0) (xs := xs0) hn0 hx0 (g_inb_ok i105) dL_law_616 ?_
                                  refine go_aload_n (pc := 617) dL_law_617 rfl ?_
                                  refine go_iload_n (pc := 618) dL_law_618 rfl ?_
                                  refine go_iconst (pc := 619) (v := (2 : Int32)) dL_law_619 (by decide) ?_
                                  refine go_iadd (pc := 620) dL_law_620 ?_
                                  obtain ⟨i106, h⟩ := g_gd h
                                  refine go_xld (pc := 621) (n := n0) (xs := xs0) hn0 hx0 (g_inb_ok i106) dL_law_621 ?_
                                  refine go_aload_n (pc := 622) dL_law_622 rfl ?_
                                  refine go_iload_n (pc := 623) dL_law_623 rfl ?_
                                  refine go_iconst (pc := 624) (v := (3 : Int32)) dL_law_624 (by decide) ?_
                                  refine go_iadd (pc := 625) dL_law_625 ?_
                                  obtain ⟨i107, h⟩ := g_gd h
                                  refine go_xld (pc := 626) (n := n0) (xs := xs0) hn0 hx0 (g_inb_ok i107) dL_law_626 ?_
                                  obtain ⟨u108, c109, h⟩ := g_bd h
                                  refine go_callV (pc := 627) (as := [.inl (xs0 (v3 + (1 : Int32)).toNatClampNeg), .inl (xs0 (v3 + (2 : Int32)).toNatClampNeg), .inl (xs0 (v3 + (3 : Int32)).toNatClampNeg)]) (st := []) (r := u108.1) (M1 := u108.2) (z_X8_lies hok  c109) cw_X8_lies ml_L_68 (show g_lay[0]? = some _ from rfl) rfl rfl (by decide) (Nat.le_of_ble_eq_true rfl) rfl dL_law_627 ?_
                                  refine go_aload_n (pc := 630) dL_law_630 rfl ?_
                                  refine go_aload_n (pc := 631) dL_law_631 rfl ?_
                                  refine go_iload_n (pc := 632) dL_law_632 rfl ?_
                                  refine go_iconst (pc := 633) (v := (1 : Int32)) dL_law_633 (by decide) ?_
                                  refine go_iadd (pc := 634) dL_law_634 ?_
                                  obtain ⟨i110, h⟩ := g_gd h
                                  refine go_xld (pc := 635) (n := n0) (xs := xs0) hn0 hx0 (g_inb_ok i110) dL_law_635 ?_
                                  refine go_aload_n (pc := 636) dL_law_636 rfl ?_
                                  refine go_iload_n (pc := 637) dL_law_637 rfl ?_
                                  refine go_iconst (pc := 638) (v := (2 : Int32)) dL_law_638 (by decide) ?_
                                  refine go_iadd (pc := 639) dL_law_639 ?_
                                  obtain ⟨i111, h⟩ := g_gd h
                                  refine go_xld (pc := 640) (n := n0) (xs := xs0) hn0 hx0 (g_inb_ok i111) dL_law_640 ?_
                                  refine go_aload_n (pc := 641) dL_law_641 rfl ?_
                                  refine go_iload_n (pc := 642) dL_law_642 rfl ?_
                                  refine go_iconst (pc := 643) (v := (3 : Int32)) dL_law_643 (by decide) ?_
                                  refine go_iadd (pc := 644) dL_law_644 ?_
                                  obtain ⟨i112, h⟩ := g_gd h
                                  refine go_xld (pc := 645) (n := n0) (xs := xs0) hn0 hx0 (g_inb_ok i112) dL_law_645 ?_
                                  obtain ⟨u113, c114, h⟩ := g_bd h
                                  refine go_callV (pc := 646) (as := [.inl (xs0 (v3 + (1 : Int32)).toNatClampNeg), .inl (xs0 (v3 + (2 : Int32)).toNatClampNeg), .inl (xs0 (v3 + (3 : Int32)).toNatClampNeg)]) (st := [.inl u108.1]) (r := u113.1) (M1 := u113.2) (z_X9_lies hok  c114) cw_X9_lies ml_L_72 (show g_lay[41]? = some _ from rfl) rfl rfl (by decide) (Nat.le_of_ble_eq_true rfl) rfl dL_law_646 ?_
                                  refine go_icmp_eq (pc := 649) (tgt := 1765) dL_law_649 (by decide) (fun e115 => ?_) (fun e115 => ?_)
                                  · replace h := (if_pos e115).symm.trans h
                                    refine go_iinc (pc := 1765) (v := (5 : Int32)) (lv' := [some (.inr 5000), some (.inr 0), some (.inr 41), some (.inl (v3 + (5 : Int32)))]) dL_law_1765 rfl (by decide) (by decide) rfl ?_
                                    refine go_goto (pc := 1768) (tgt := 18) dL_law_1768 (by decide) ?_
                                    exact go_to (ih _ _ h) (And.intro rfl (And.intro rfl (And.intro rfl (And.intro rfl trivial))))
                                  · replace h := (if_neg e115).symm.trans h
                                    refine go_iconst (pc := 652) (v := (0 : Int32)) dL_law_652 (by decide) ?_
                                    exact go_iret (pc := 653) (Option.some.inj h).symm rfl dL_law_653 rfl
                                · replace h := (if_neg e440).symm.trans h
                                  by_cases e441 : ((xs0 v3.toNatClampNeg) &&& (63 : Int32)) = (14 : Int32)
                                  · replace h := (if_pos e441).symm.trans h
                                    refine go_tabIn (pc := 32) (off := 622) (tgt := 654) dL_law_32 (by rw [e441]; decide) (by rw [e441]; decide) (by rw [e441]; decide) (by decide) ?_
                                    refine go_aload_n (pc := 654) dL_law_654 rfl ?_
                                    refine go_aload_n (pc := 655) dL_law_655 rfl ?_
                                    refine go_iload_n (pc := 656) dL_law_656 rfl ?_
                                    refine go_iconst (pc := 657) (v := (1 : Int32)) dL_law_657 (by decide) ?_
                                    refine go_iadd (pc := 658) dL_law_658 ?_
                                    obtain ⟨i116, h⟩ := g_gd h
                                    refine go_xld (pc := 659) (n := n0) (xs := xs0) hn0 hx0 (g_inb_ok i116) dL_law_659 ?_
                                    refine go_aload_n (pc := 660) dL_law_660 rfl ?_
                                    refine go_iload_n (pc := 661) dL_law_661 rfl ?_
                                    refine go_iconst (pc := 662) (v := (2 : Int32)) dL_law_662 (by decide) ?_
                                    refine go_iadd (pc := 663) dL_law_663 ?_
                                    obtain ⟨i117, h⟩ := g_gd h
                                    refine go_xld (pc := 664) (n := n0) (xs := xs0) hn0 hx0 (g_inb_ok i117) dL_law_664 ?_
                                    obtain ⟨u118, c119, h⟩ := g_bd h
                                    refine go_callV (pc := 665) (as := [.inl (xs0 (v3 + (1 : Int32)).toNatClampNeg), .inl (xs0 (v3 + (2 : Int32)).toNatClampNeg)]) (st := []) (r := u118.1) (M1 := u118.2) (z_X8_hours hok  c119) cw_X8_hours ml_L_73 (show g_lay[0]? = some _ from rfl) rfl rfl (by decide) (Nat.le_of_ble_eq_true rfl) rfl dL_law_665 ?_
                                    refine go_aload_n (pc := 668) dL_law_668 rfl ?_
                                    refine go_aload_n (pc := 669) dL_law_669 rfl ?_
                                    refine go_iload_n (pc := 670) dL_law_670 rfl ?_
                                    refine go_iconst (pc := 671) (v := (1 : Int32)) dL_law_671 (by decide) ?_
                                    refine go_iadd (pc := 672) dL_law_672 ?_
                                    obtain ⟨i120, h⟩ := g_gd h
                                    refine go_xld (pc := 673) (n := n0) (xs := xs0) hn0 hx0 (g_inb_ok i120) dL_law_673 ?_
                                    refine go_aload_n (pc := 674) dL_law_674 rfl ?_
                                    refine go_iload_n (pc := 675) dL_law_675 rfl ?_
                                    refine go_iconst (pc := 676) (v := (2 : Int32)) dL_law_676 (by decide) ?_
                                    refine go_iadd (pc := 677) dL_law_677 ?_
                                    obtain ⟨i121, h⟩ := g_gd h
                                    refine go_xld (pc := 678) (n := n0) (xs := xs0) hn0 hx0 (g_inb_ok i121) dL_law_678 ?_
                                    obtain ⟨u122, c123, h⟩ := g_bd h
                                    refine go_callV (pc := 679) (as := [.inl (xs0 (v3 + (1 : Int32)).toNatClampNeg), .inl (xs0 (v3 + (2 : Int32)).toNatClampNeg)]) (st := [.inl u118.1]) (r := u122.1) (M1 := u122.2) (z_X9_hours hok  c123) cw_X9_hours ml_L_76 (show g_lay[41]? = some _ from rfl) rfl rfl (by decide) (Nat.le_of_ble_eq_true rfl) rfl dL_law_679 ?_
                                    refine go_icmp_eq (pc := 682) (tgt := 1765) dL_law_682 (by decide) (fun e124 => ?_) (fun e124 => ?_)
                                    · replace h := (if_pos e124).symm.trans h
                                      refine go_iinc (pc := 1765) (v := (5 : Int32)) (lv' := [some (.inr 5000), some (.inr 0), some (.inr 41), some (.inl (v3 + (5 : Int32)))]) dL_law_1765 rfl (by decide) (by decide) rfl ?_
                                      refine go_goto (pc := 1768) (tgt := 18) dL_law_1768 (by decide) ?_
                                      exact go_to (ih _ _ h) (And.intro rfl (And.intro rfl (And.intro rfl (And.intro rfl trivial))))
                                    · replace h := (if_neg e124).symm.trans h
                                      refine go_iconst (pc := 685) (v := (0 : Int32)) dL_law_685 (by decide) ?_
                                      exact go_iret (pc := 686) (Option.some.inj h).symm rfl dL_law_686 rfl
                                  · replace h := (if_neg e441).symm.trans h
                                    by_cases e442 : ((xs0 v3.toNatClampNeg) &&& (63 : Int32)) = (15 : Int32)
                                    · replace h := (if_pos e442).symm.trans h
                                      refine go_tabIn (pc := 32) (off := 655) (tgt := 687) dL_law_32 (by rw [e442]; decide) (by rw [e442]; decide) (by rw [e442]; decide) (by decide) ?_
                                      refine go_aload_n (pc := 687) dL_law_687 rfl ?_
                                      refine go_aload_n (pc := 688) dL_law_688 rfl ?_
                                      refine go_iload_n (pc := 689) dL_law_689 rfl ?_
                                      refine go_iconst (pc := 690) (v := (1 : Int32)) dL_law_690 (by decide) ?_
                                      refine go_iadd (pc := 691) dL_law_691 ?_
                                      obtain ⟨i125, h⟩ := g_gd h
                                      refine go_xld (pc := 692) (n := n0) (xs := xs0) hn0 hx0 (g_inb_ok i125) dL_law_692 ?_
                                      refine go_aload_n (pc := 693) dL_law_693 rfl ?_
                                      refine go_iload_n (pc := 694) dL_law_694 rfl ?_
                                      refine go_iconst (pc := 695) (v := (2 : Int32)) dL_law_695 (by decide) ?_
                                      refine go_iadd (pc := 696) dL_law_696 ?_
                                      obtain ⟨i126, h⟩ := g_gd h
                                      refine go_xld (pc := 697) (n := n0) (xs := xs0) hn0 hx0 (g_inb_ok i126) dL_law_697 ?_
                                      obtain ⟨u127, c128, h⟩ := g_bd h
                                      refine go_callV (pc := 698) (as := [.inl (xs0 (v3 + (1 : Int32)).toNatClampNeg), .inl (xs0 (v3 + (2 : Int32)).toNatClampNeg)]) (st := []) (r := u127.1) (M1 := u127.2) (z_X8_length hok  c128) cw_X8_length ml_L_77 (show g_lay[0]? = some _ from rfl) rfl rfl (by decide) (Nat.le_of_ble_eq_true rfl) rfl dL_law_698 ?_
                                      refine go_aload_n (pc := 701) dL_law_701 rfl ?_
                                      refine go_aload_n (pc := 702) dL_law_702 rfl ?_
                                      refine go_iload_n (pc := 703) dL_law_703 rfl ?_
                                      refine go_iconst (pc := 704) (v := (1 : Int32)) dL_law_704 (by decide) ?_
                                      refine go_iadd (pc := 705) dL_law_705 ?_
                                      obtain ⟨i129, h⟩ := g_gd h
                                      refine go_xld (pc := 706) (n := n0) (xs := xs0) hn0 hx0 (g_inb_ok i129) dL_law_706 ?_
                                      refine go_aload_n (pc := 707) dL_law_707 rfl ?_
                                      refine go_iload_n (pc := 708) dL_law_708 rfl ?_
                                      refine go_iconst (pc := 709) (v := (2 : Int32)) dL_law_709 (by decide) ?_
                                      refine go_iadd (pc := 710) dL_law_710 ?_
                                      obtain ⟨i130, h⟩ := g_gd h
                                      refine go_xld (pc := 711) (n := n0) (xs := xs0) hn0 hx0 (g_inb_ok i130) dL_law_711 ?_
                                      obtain ⟨u131, c132, h⟩ := g_bd h
                                      refine go_callV (pc := 712) (as := [.inl (xs0 (v3 + (1 : Int32)).toNatClampNeg), .inl (xs0 (v3 + (2 : Int32)).toNatClampNeg)]) (st := [.inl u127.1]) (r := u131.1) (M1 := u131.2) (z_X9_length hok  c132) cw_X9_length ml_L_80 (show g_lay[41]? = some _ from rfl) rfl rfl (by decide) (Nat.le_of_ble_eq_true rfl) rfl dL_law_712 ?_
                                      refine go_icmp_eq (pc := 715) (tgt := 1765) dL_law_715 (by decide) (fun e133 => ?_) (fun e133 => ?_)
                                      · replace h := (if_pos e133).symm.trans h
                                        refine go_iinc (pc := 1765) (v := (5 : Int32)) (lv' := [some (.inr 5000), some (.inr 0), some (.inr 41), some (.inl (v3 + (5 : Int32)))]) dL_law_1765 rfl (by decide) (by decide) rfl ?_
                                        refine go_goto (pc := 1768) (tgt := 18) dL_law_1768 (by decide) ?_
                                        exact go_to (ih _ _ h) (And.intro rfl (And.intro rfl (And.intro rfl (And.intro rfl trivial))))
                                      · replace h := (if_neg e133).symm.trans h
                                        refine go_iconst (pc := 718) (v := (0 : Int32)) dL_law_718 (by decide) ?_
                                        exact go_iret (pc := 719) (Option.some.inj h).symm rfl dL_law_719 rfl
                                    · replace h := (if_neg e442).symm.trans h
                                      by_cases e443 : ((xs0 v3.toNatClampNeg) &&& (63 : Int32)) = (16 : Int32)
                                      · replace h := (if_pos e443).symm.trans h
                                        refine go_tabIn (pc := 32) (off := 688) (tgt := 720) dL_law_32 (by rw [e443]; decide) (by rw [e443]; decide) (by rw [e443]; decide) (by decide) ?_
                                        refine go_aload_n (pc := 720) dL_law_720 rfl ?_
                                        refine go_aload_n (pc := 721) dL_law_721 rfl ?_
                                        refine go_iload_n (pc := 722) dL_law_722 rfl ?_
                                        refine go_iconst (pc := 723) (v := (1 : Int32)) dL_law_723 (by decide) ?_
                                        refine go_iadd (pc := 724) dL_law_724 ?_
                                        obtain ⟨i134, h⟩ := g_gd h
                                        refine go_xld (pc := 725) (n := n0) (xs := xs0) hn0 hx0 (g_inb_ok i134) dL_law_725 ?_
                                        refine go_aload_n (pc := 726) dL_law_726 rfl ?_
                                        refine go_iload_n (pc := 727) dL_law_727 rfl ?_
                                        refine go_iconst (pc := 728) (v := (2 : Int32)) dL_law_728 (by decide) ?_
                                        refine go_iadd (pc := 729) dL_law_729 ?_
                                        obtain ⟨i135, h⟩ := g_gd h
                                        refine go_xld (pc := 730) (n := n0) (xs := xs0) hn0 hx0 (g_inb_ok i135) dL_law_730 ?_
                                        obtain ⟨u136, c137, h⟩ := g_bd h
                                        refine go_callV (pc := 731) (as := [.inl (xs0 (v3 + (1 : Int32)).toNatClampNeg), .inl (xs0 (v3 + (2 : Int32)).toNatClampNeg)]) (st := []) (r := u136.1) (M1 := u136.2) (z_X8_tended hok  c137) cw_X8_tended ml_L_81 (show g_lay[0]? = some _ from rfl) rfl rfl (by decide) (Nat.le_of_ble_eq_true rfl) rfl dL_law_731 ?_
                                        refine go_aload_n (pc := 734) dL_law_734 rfl ?_
                                        refine go_aload_n (pc := 735) dL_law_735 rfl ?_
                                        refine go_iload_n (pc := 736) dL_law_736 rfl ?_
                                        refine go_iconst (pc := 737) (v := (1 : Int32)) dL_law_737 (by decide) ?_
                                        refine go_iadd (pc := 738) dL_law_738 ?_
                                        obtain ⟨i138, h⟩ := g_gd h
                                        refine go_xld (pc := 739) (n := n0) (xs := xs0) hn0 hx0 (g_inb_ok i138) dL_law_739 ?_
                                        refine go_aload_n (pc := 740) dL_law_740 rfl ?_
                                        refine go_iload_n (pc := 741) dL_law_741 rfl ?_
                                        refine go_iconst (pc := 742) (v := (2 : Int32)) dL_law_742 (by decide) ?_
                                        refine go_iadd (pc := 743) dL_law_743 ?_
                                        obtain ⟨i139, h⟩ := g_gd h
                                        refine go_xld (pc := 744) (n := n0) (xs := xs0) hn0 hx0 (g_inb_ok i139) dL_law_744 ?_
                                        obtain ⟨u140, c141, h⟩ := g_bd h
                                        refine go_callV (pc := 745) (as := [.inl (xs0 (v3 + (1 : Int32)).toNatClampNeg), .inl (xs0 (v3 + (2 : Int32)).toNatClampNeg)]) (st := [.inl u136.1]) (r := u140.1) (M1 := u140.2) (z_X9_tended hok  c141) cw_X9_tended ml_L_84 (show g_lay[41]? = some _ from rfl) rfl rfl (by decide) (Nat.le_of_ble_eq_true rfl) rfl dL_law_745 ?_
                                        refine go_icmp_eq (pc := 748) (tgt := 1765) dL_law_748 (by decide) (fun e142 => ?_) (fun e142 => ?_)
                                        · replace h := (if_pos e142).symm.trans h
                                          refine go_iinc (pc := 1765) (v := (5 : Int32)) (lv' := [some (.inr 5000), some (.inr 0), some (.inr 41), some (.inl (v3 + (5 : Int32)))]) dL_law_1765 rfl (by decide) (by decide) rfl ?_
                                          refine go_goto (pc := 1768) (tgt := 18) dL_law_1768 (by decide) ?_
                                          exact go_to (ih _ _ h) (And.intro rfl (And.intro rfl (And.intro rfl (And.intro rfl trivial))))
                                        · replace h := (if_neg e142).symm.trans h
                                          refine go_iconst (pc := 751) (v := (0 : Int32)) dL_law_751 (by decide) ?_
                                          exact go_iret (pc := 752) (Option.some.inj h).symm rfl dL_law_752 rfl
                                      · replace h := (if_neg e443).symm.trans h
                                        by_cases e444 : ((xs0 v3.toNatClampNeg) &&& (63 : Int32)) = (17 : Int32)
                                        · replace h := (if_pos e444).symm.trans h
                                          refine go_tabIn (pc := 32) (off := 721) (tgt := 753) dL_law_32 (by rw [e444]; decide) (by rw [e444]; decide) (by rw [e444]; decide) (by decide) ?_
                                          refine go_aload_n (pc := 753) dL_law_753 rfl ?_
                                          refine go_aload_n (pc := 754) dL_law_754 rfl ?_
                                          refine go_iload_n (pc := 755) dL_law_755 rfl ?_
                                          refine go_iconst (pc := 756) (v := (1 : Int32)) dL_law_756 (by decide) ?_
                                          refine go_iadd (pc := 757) dL_law_757 ?_
                                          obtain ⟨i143, h⟩ := g_gd h
                                          refine go_xld (pc := 758) (n := n0) (xs := xs0) hn0 hx0 (g_inb_ok i143) dL_law_758 ?_
                                          refine go_aload_n (pc := 759) dL_law_759 rfl ?_
                                          refine go_iload_n (pc := 760) dL_law_760 rfl ?_
                                          refine go_iconst (pc := 761) (v := (2 : Int32)) dL_law_761 (by decide) ?_
                                          refine go_iadd (pc := 762) dL_law_762 ?_
                                          obtain ⟨i144, h⟩ := g_gd h
                                          refine go_xld (pc := 763) (n := n0) (xs := xs0) hn0 hx0 (g_inb_ok i144) dL_law_763 ?_
                                          obtain ⟨u145, c146, h⟩ := g_bd h
                                          refine go_callV (pc := 764) (as := [.inl (xs0 (v3 + (1 : Int32)).toNatClampNeg), .inl (xs0 (v3 + (2 : Int32)).toNatClampNeg)]) (st := []) (r := u145.1) (M1 := u145.2) (z_X8_touch hok  c146) cw_X8_touch ml_L_85 (show g_lay[0]? = some _ from rfl) rfl rfl (by decide) (Nat.le_of_ble_eq_true rfl) rfl dL_law_764 ?_
                                          refine go_aload_n (pc := 767) dL_law_767 rfl ?_
                                          refine go_aload_n (pc := 768) dL_law_768 rfl ?_
                                          refine go_iload_n (pc := 769) dL_law_769 rfl ?_
                                          refine go_iconst (pc := 770) (v := (1 : Int32)) dL_law_770 (by decide) ?_
                                          refine go_iadd (pc := 771) dL_law_771 ?_
                                          obtain ⟨i147, h⟩ := g_gd h
                                          refine go_xld (pc := 772) (n := n0) (xs := xs0) hn0 hx0 (g_inb_ok i147) dL_law_772 ?_
                                          refine go_aload_n (pc := 773) dL_law_773 rfl ?_
                                          refine go_iload_n (pc := 774) dL_law_774 rfl ?_
                                          refine go_iconst (pc := 775) (v := (2 : Int32)) dL_law_775 (by decide) ?_
                                          refine go_iadd (pc := 776) dL_law_776 ?_
                                          obtain ⟨i148, h⟩ := g_gd h
                                          refine go_xld (pc := 777) (n := n0) (xs := xs0) hn0 hx0 (g_inb_ok i148) dL_law_777 ?_
                                          obtain ⟨u149, c150, h⟩ := g_bd h
                                          refine go_callV (pc := 778) (as := [.inl (xs0 (v3 + (1 : Int32)).toNatClampNeg), .inl (xs0 (v3 + (2 : Int32)).toNatClampNeg)]) (st := [.inl u145.1]) (r := u149.1) (M1 := u149.2) (z_X9_touch hok  c150) cw_X9_touch ml_L_88 (show g_lay[41]? = some _ from rfl) rfl rfl (by decide) (Nat.le_of_ble_eq_true rfl) rfl dL_law_778 ?_
                                          refine go_icmp_eq (pc := 781) (tgt := 1765) dL_law_781 (by decide) (fun e151 => ?_) (fun e151 => ?_)
                                          · replace h := (if_pos e151).symm.trans h
                                            refine go_iinc (pc := 1765) (v := (5 : Int32)) (lv' := [some (.inr 5000), some (.inr 0), some (.inr 41), some (.inl (v3 + (5 : Int32)))]) dL_law_1765 rfl (by decide) (by decide) rfl ?_
                                            refine go_goto (pc := 1768) (tgt := 18) dL_law_1768 (by decide) ?_
                                            exact go_to (ih _ _ h) (And.intro rfl (And.intro rfl (And.intro rfl (And.intro rfl trivial))))
                                          · replace h := (if_neg e151).symm.trans h
                                            refine go_iconst (pc := 784) (v := (0 : Int32)) dL_law_784 (by decide) ?_
                                            exact go_iret (pc := 785) (Option.some.inj h).symm rfl dL_law_785 rfl
                                        · replace h := (if_neg e444).symm.trans h
                                          by_cases e445 : ((xs0 v3.toNatClampNeg) &&& (63 : Int32)) = (18 : Int32)
                                          · replace h := (if_pos e445).symm.trans h
                                            refine go_tabIn (pc := 32) (off := 754) (tgt := 786) dL_law_32 (by rw [e445]; decide) (by rw [e445]; decide) (by rw [e445]; decide) (by decide) ?_
                                            refine go_aload_n (pc := 786) dL_law_786 rfl ?_
                                            refine go_aload_n (pc := 787) dL_law_787 rfl ?_
                                            refine go_iload_n (pc := 788) dL_law_788 rfl ?_
                                            refine go_iconst (pc := 789) (v := (1 : Int32)) dL_law_789 (by decide) ?_
                                            refine go_iadd (pc := 790) dL_law_790 ?_
                                            obtain ⟨i152, h⟩ := g_gd h
                                            refine go_xld (pc := 791) (n := n0) (xs := xs0) hn0 hx0 (g_inb_ok i152) dL_law_791 ?_
                                            refine go_aload_n (pc := 792) dL_law_792 rfl ?_
                                            refine go_iload_n (pc := 793) dL_law_793 rfl ?_
                                            refine go_iconst (pc := 794) (v := (2 : Int32)) dL_law_794 (by decide) ?_
                                            refine go_iadd (pc := 795) dL_law_795 ?_
                                            obtain ⟨i153, h⟩ := g_gd h
                                            refine go_xld (pc := 796) (n := n0) (xs := xs0) hn0 hx0 (g_inb_ok i153) dL_law_796 ?_
                                            obtain ⟨u154, c155, h⟩ := g_bd h
                                            refine go_callV (pc := 797) (as := [.inl (xs0 (v3 + (1 : Int32)).toNatClampNeg), .inl (xs0 (v3 + (2 : Int32)).toNatClampNeg)]) (st := []) (r := u154.1) (M1 := u154.2) (z_X8_clear hok  c155) cw_X8_clear ml_L_89 (show g_lay[0]? = some _ from rfl) rfl rfl (by decide) (Nat.le_of_ble_eq_true rfl) rfl dL_law_797 ?_
                                            refine go_aload_n (pc := 800) dL_law_800 rfl ?_
                                            refine go_aload_n (pc := 801) dL_law_801 rfl ?_
                                            refine go_iload_n (pc := 802) dL_law_802 rfl ?_
                                            refine go_iconst (pc := 803) (v := (1 : Int32)) dL_law_803 (by decide) ?_
                                            refine go_iadd (pc := 804) dL_law_804 ?_
                                            obtain ⟨i156, h⟩ := g_gd h
                                            refine go_xld (pc := 805) (n := n0) (xs := xs0) hn0 hx0 (g_inb_ok i156) dL_law_805 ?_
                                            refine go_aload_n (pc := 806) dL_law_806 rfl ?_
                                            refine go_iload_n (pc := 807) dL_law_807 rfl ?_
                                            refine go_iconst (pc := 808) (v := (2 : Int32)) dL_law_808 (by decide) ?_
                                            refine go_iadd (pc := 809) dL_law_809 ?_
                                            obtain ⟨i157, h⟩ := g_gd h
                                            refine go_xld (pc := 810) (n := n0) (xs := xs0) hn0 hx0 (g_inb_ok i157) dL_law_810 ?_
                                            obtain ⟨u158, c159, h⟩ := g_bd h
                                            refine go_callV (pc := 811) (as := [.inl (xs0 (v3 + (1 : Int32)).toNatClampNeg), .inl (xs0 (v3 + (2 : Int32)).toNatClampNeg)]) (st := [.inl u154.1]) (r := u158.1) (M1 := u158.2) (z_X9_clear hok  c159) cw_X9_clear ml_L_92 (show g_lay[41]? = some _ from rfl) rfl rfl (by decide) (Nat.le_of_ble_eq_true rfl) rfl dL_law_811 ?_
                                            refine go_icmp_eq (pc := 814) (tgt := 1765) dL_law_814 (by decide) (fun e160 => ?_) (fun e160 => ?_)
                                            · replace h := (if_pos e160).symm.trans h
                                              refine go_iinc (pc := 1765) (v := (5 : Int32)) (lv' := [some (.inr 5000), some (.inr 0), some (.inr 41), some (.inl (v3 + (5 : Int32)))]) dL_law_1765 rfl (by decide) (by decide) rfl ?_
                                              refine go_goto (pc := 1768) (tgt := 18) dL_law_1768 (by decide) ?_
                                              exact go_to (ih _ _ h) (And.intro rfl (And.intro rfl (And.intro rfl (And.intro rfl trivial))))
                                            · replace h := (if_neg e160).symm.trans h
                                              refine go_iconst (pc := 817) (v := (0 : Int32)) dL_law_817 (by decide) ?_
                                              exact go_iret (pc := 818) (Option.some.inj h).symm rfl dL_law_818 rfl
                                          · replace h := (if_neg e445).symm.trans h
                                            by_cases e446 : ((xs0 v3.toNatClampNeg) &&& (63 : Int32)) = (19 : Int32)
                                            · replace h := (if_pos e446).symm.trans h
                                              refine go_tabIn (pc := 32) (off := 787) (tgt := 819) dL_law_32 (by rw [e446]; decide) (by rw [e446]; decide) (by rw [e446]; decide) (by decide) ?_
                                              refine go_aload_n (pc := 819) dL_law_819 rfl ?_
                                              refine go_aload_n (pc := 820) dL_law_820 rfl ?_
                                              refine go_iload_n (pc := 821) dL_law_821 rfl ?_
                                              refine go_iconst (pc := 822) (v := (1 : Int32)) dL_law_822 (by decide) ?_
                                              refine go_iadd (pc := 823) dL_law_823 ?_
                                              obtain ⟨i161, h⟩ := g_gd h
                                              refine go_xld (pc := 824) (n := n0) (xs := xs0) hn0 hx0 (g_inb_ok i161) dL_law_824 ?_
                                              obtain ⟨u162, c163, h⟩ := g_bd h
                                              refine go_callV (pc := 825) (as := [.inl (xs0 (v3 + (1 : Int32)).toNatClampNeg)]) (st := []) (r := u162.1) (M1 := u162.2) (z_X8_slack hok  c163) cw_X8_slack ml_L_93 (show g_lay[0]? = some _ from rfl) rfl rfl (by decide) (Nat.le_of_ble_eq_true rfl) rfl dL_law_825 ?_
                                              refine go_aload_n (pc := 828) dL_law_828 rfl ?_
                                              refine go_aload_n (pc := 829) dL_law_829 rfl ?_
                                              refine go_iload_n (pc := 830) dL_law_830 rfl ?_
                                              refine go_iconst (pc := 831) (v := (1 : Int32)) dL_law_831 (by decide) ?_
                                              refine go_iadd (pc := 832) dL_law_832 ?_
                                              obtain ⟨i164, h⟩ := g_gd h
                                              refine go_xld (pc := 833) (n := n0) (xs := xs0) hn0 hx0 (g_inb_ok i164) dL_law_833 ?_
                                              obtain ⟨u165, c166, h⟩ := g_bd h
                                              refine go_callV (pc := 834) (as := [.inl (xs0 (v3 + (1 : Int32)).toNatClampNeg)]) (st := [.inl u162.1]) (r := u165.1) (M1 := u165.2) (z_X9_slack hok  c166) cw_X9_slack ml_L_96 (show g_lay[41]? = some _ from rfl) rfl rfl (by decide) (Nat.le_of_ble_eq_true rfl) rfl dL_law_834 ?_
                                              refine go_icmp_eq (pc := 837) (tgt := 1765) dL_law_837 (by decide) (fun e167 => ?_) (fun e167 => ?_)
                                              · replace h := (if_pos e167).symm.trans h
                                                refine go_iinc (pc := 1765) (v := (5 : Int32)) (lv' := [some (.inr 5000), some (.inr 0), some (.inr 41), some (.inl (v3 + (5 : Int32)))]) dL_law_1765 rfl (by decide) (by decide) rfl ?_
                                                refine go_goto (pc := 1768) (tgt := 18) dL_law_1768 (by decide) ?_
                                                exact go_to (ih _ _ h) (And.intro rfl (And.intro rfl (And.intro rfl (And.intro rfl trivial))))
                                              · replace h := (if_neg e167).symm.trans h
                                                refine go_iconst (pc := 840) (v := (0 : Int32)) dL_law_840 (by decide) ?_
                                                exact go_iret (pc := 841) (Option.some.inj h).symm rfl dL_law_841 rfl
                                            · replace h := (if_neg e446).symm.trans h
                                              by_cases e447 : ((xs0 v3.toNatClampNeg) &&& (63 : Int32)) = (20 : Int32)
                                              · replace h := (if_pos e447).symm.trans h
                                                refine go_tabIn (pc := 32) (off := 810) (tgt := 842) dL_law_32 (by rw [e447]; decide) (by rw [e447]; decide) (by rw [e447]; decide) (by decide) ?_
                                                refine go_aload_n (pc := 842) dL_law_842 rfl ?_
                                                refine go_aload_n (pc := 843) dL_law_843 rfl ?_
                                                refine go_iload_n (pc := 844) dL_law_844 rfl ?_
                                                refine go_iconst (pc := 845) (v := (1 : Int32)) dL_law_845 (by decide) ?_
                                                refine go_iadd (pc := 846) dL_law_846 ?_
                                                obtain ⟨i168, h⟩ := g_gd h
                                                refine go_xld (pc := 847) (n := n0) (xs := xs0) hn0 hx0 (g_inb_ok i168) dL_law_847 ?_
                                                obtain ⟨u169, c170, h⟩ := g_bd h
                                                refine go_callV (pc := 848) (as := [.inl (xs0 (v3 + (1 : Int32)).toNatClampNeg)]) (st := []) (r := u169.1) (M1 := u169.2) (z_X8_alongside hok  c170) cw_X8_alongside ml_L_97 (show g_lay[0]? = some _ from rfl) rfl rfl (by decide) (Nat.le_of_ble_eq_true rfl) rfl dL_law_848 ?_
                                                refine go_aload_n (pc := 851) dL_law_851 rfl ?_
                                                refine go_aload_n (pc := 852) dL_law_852 rfl ?_
                                                refine go_iload_n (pc := 853) dL_law_853 rfl ?_
                                                refine go_iconst (pc := 854) (v := (1 : Int32)) dL_law_854 (by decide) ?_
                                                refine go_iadd (pc := 855) dL_law_855 ?_
                                                obtain ⟨i171, h⟩ := g_gd h
                                                refine go_xld (pc := 856) (n := n0) (xs := xs0) hn0 hx0 (g_inb_ok i171) dL_law_856 ?_
                                                obtain ⟨u172, c173, h⟩ := g_bd h
                                                refine go_callV (pc := 857) (as := [.inl (xs0 (v3 + (1 : Int32)).toNatClampNeg)]) (st := [.inl u169.1]) (r := u172.1) (M1 := u172.2) (z_X9_alongside hok  c173) cw_X9_alongside ml_L_100 (show g_lay[41]? = some _ from rfl) rfl rfl (by decide) (Nat.le_of_ble_eq_true rfl) rfl dL_law_857 ?_
                                                refine go_icmp_eq (pc := 860) (tgt := 1765) dL_law_860 (by decide) (fun e174 => ?_) (fun e174 => ?_)
                                                · replace h := (if_pos e174).symm.trans h
                                                  refine go_iinc (pc := 1765) (v := (5 : Int32)) (lv' := [some (.inr 5000), some (.inr 0), some (.inr 41), some (.inl (v3 + (5 : Int32)))]) dL_law_1765 rfl (by decide) (by decide) rfl ?_
                                                  refine go_goto (pc := 1768) (tgt := 18) dL_law_1768 (by decide) ?_
                                                  exact go_to (ih _ _ h) (And.intro rfl (And.intro rfl (And.intro rfl (And.intro rfl trivial))))
                                                · replace h := (if_neg e174).symm.trans h
                                                  refine go_iconst (pc := 863) (v := (0 : Int32)) dL_law_863 (by decide) ?_
                                                  exact go_iret (pc := 864) (Option.some.inj h).symm rfl dL_law_864 rfl
                                              · replace h := (if_neg e447).symm.trans h
                                                by_cases e448 : ((xs0 v3.toNatClampNeg) &&& (63 : Int32)) = (21 : Int32)
                                                · replace h := (if_pos e448).symm.trans h
                                                  refine go_tabIn (pc := 32) (off := 833) (tgt := 865) dL_law_32 (by rw [e448]; decide) (by rw [e448]; decide) (by rw [e448]; decide) (by decide) ?_
                                                  refine go_aload_n (pc := 865) dL_law_865 rfl ?_
                                                  refine go_aload_n (pc := 866) dL_law_866 rfl ?_
                                                  refine go_iload_n (pc := 867) dL_law_867 rfl ?_
                                                  refine go_iconst (pc := 868) (v := (1 : Int32)) dL_law_868 (by decide) ?_
                                                  refine go_iadd (pc := 869) dL_law_869 ?_
                                                  obtain ⟨i175, h⟩ := g_gd h
                                                  refine go_xld (pc := 870) (n := n0) (xs := xs0) hn0 hx0 (g_inb_ok i175) dL_law_870 ?_
                                                  refine go_aload_n (pc := 871) dL_law_871 rfl ?_
                                                  refine go_iload_n (pc := 872) dL_law_872 rfl ?_
                                                  refine go_iconst (pc := 873) (v := (2 : Int32)) dL_law_873 (by decide) ?_
                                                  refine go_iadd (pc := 874) dL_law_874 ?_
                                                  obtain ⟨i176, h⟩ := g_gd h
                                                  refine go_xld (pc := 875) (n := n0) (xs := xs0) hn0 hx0 (g_inb_ok i176) dL_law_875 ?_
                                                  obtain ⟨u177, c178, h⟩ := g_bd h
                                                  refine go_callV (pc := 876) (as := [.inl (xs0 (v3 + (1 : Int32)).toNatClampNeg), .inl (xs0 (v3 + (2 : Int32)).toNatClampNeg)]) (st := []) (r := u177.1) (M1 := u177.2) (z_X8_mud hok  c178) cw_X8_mud ml_L_101 (show g_lay[0]? = some _ from rfl) rfl rfl (by decide) (Nat.le_of_ble_eq_true rfl) rfl dL_law_876 ?_
                                                  refine go_aload_n (pc := 879) dL_law_879 rfl ?_
                                                  refine go_aload_n (pc := 880) dL_law_880 rfl ?_
                                                  refine go_iload_n (pc := 881) dL_law_881 rfl ?_
                                                  refine go_iconst (pc := 882) (v := (1 : Int32)) dL_law_882 (by decide) ?_
                                                  refine go_iadd (pc := 883) dL_law_883 ?_
                                                  obtain ⟨i179, h⟩ := g_gd h
                                                  refine go_xld (pc := 884) (n := n0) (xs := xs0) hn0 hx0 (g_inb_ok i179) dL_law_884 ?_
                                                  refine go_aload_n (pc := 885) dL_law_885 rfl ?_
                                                  refine go_iload_n (pc := 886) dL_law_886 rfl ?_
                                                  refine go_iconst (pc := 887) (v := (2 : Int32)) dL_law_887 (by decide) ?_
                                                  refine go_iadd (pc := 888) dL_law_888 ?_
                                                  obtain ⟨i180, h⟩ := g_gd h
                                                  refine go_xld (pc := 889) (n := n0) (xs := xs0) hn0 hx0 (g_inb_ok i180) dL_law_889 ?_
                                                  obtain ⟨u181, c182, h⟩ := g_bd h
                                                  refine go_callV (pc := 890) (as := [.inl (xs0 (v3 + (1 : Int32)).toNatClampNeg), .inl (xs0 (v3 + (2 : Int32)).toNatClampNeg)]) (st := [.inl u177.1]) (r := u181.1) (M1 := u181.2) (z_X9_mud hok  c182) cw_X9_mud ml_L_104 (show g_lay[41]? = some _ from rfl) rfl rfl (by decide) (Nat.le_of_ble_eq_true rfl) rfl dL_law_890 ?_
                                                  refine go_icmp_eq (pc := 893) (tgt := 1765) dL_law_893 (by decide) (fun e183 => ?_) (fun e183 => ?_)
                                                  · replace h := (if_pos e183).symm.trans h
                                                    refine go_iinc (pc := 1765) (v := (5 : Int32)) (lv' := [some (.inr 5000), some (.inr 0), some (.inr 41), some (.inl (v3 + (5 : Int32)))]) dL_law_1765 rfl (by decide) (by decide) rfl ?_
                                                    refine go_goto (pc := 1768) (tgt := 18) dL_law_1768 (by decide) ?_
                                                    exact go_to (ih _ _ h) (And.intro rfl (And.intro rfl (And.intro rfl (And.intro rfl trivial))))
                                                  · replace h := (if_neg e183).symm.trans h
                                                    refine go_iconst (pc := 896) (v := (0 : Int32)) dL_law_896 (by decide) ?_
                                                    exact go_iret (pc := 897) (Option.some.inj h).symm rfl dL_law_897 rfl
                                                · replace h := (if_neg e448).symm.trans h
                                                  by_cases e449 : ((xs0 v3.toNatClampNeg) &&& (63 : Int32)) = (22 : Int32)
                                                  · replace h := (if_pos e449).symm.trans h
                                                    refine go_tabIn (pc := 32) (off := 866) (tgt := 898) dL_law_32 (by rw [e449]; decide) (by rw [e449]; decide) (by rw [e449]; decide) (by decide) ?_
                                                    refine go_aload_n (pc := 898) dL_law_898 rfl ?_
                                                    refine go_aload_n (pc := 899) dL_law_899 rfl ?_
                                                    refine go_iload_n (pc := 900) dL_law_900 rfl ?_
                                                    refine go_iconst (pc := 901) (v := (1 : Int32)) dL_law_901 (by decide) ?_
                                                    refine go_iadd (pc := 902) dL_law_902 ?_
                                                    obtain ⟨i184, h⟩ := g_gd h
                                                    refine go_xld (pc := 903) (n := n0) (xs := xs0) hn0 hx0 (g_inb_ok i184) dL_law_903 ?_
                                                    refine go_aload_n (pc := 904) dL_law_904 rfl ?_
                                                    refine go_iload_n (pc := 905) dL_law_905 rfl ?_
                                                    refine go_iconst (pc := 906) (v := (2 : Int32)) dL_law_906 (by decide) ?_
                                                    refine go_iadd (pc := 907) dL_law_907 ?_
                                                    obtain ⟨i185, h⟩ := g_gd h
                                                    refine go_xld (pc := 908) (n := n0) (xs := xs0) hn0 hx0 (g_inb_ok i185) dL_law_908 ?_
                                                    refine go_aload_n (pc := 909) dL_law_909 rfl ?_
                                                    refine go_iload_n (pc := 910) dL_law_910 rfl ?_
                                                    refine go_iconst (pc := 911) (v := (3 : Int32)) dL_law_911 (by decide) ?_
                                                    refine go_iadd (pc := 912) dL_law_912 ?_
                                                    obtain ⟨i186, h⟩ := g_gd h
                                                    refine go_xld (pc := 913) (n := n0) (xs := xs0) hn0 hx0 (g_inb_ok i186) dL_law_913 ?_
                                                    obtain ⟨u187, c188, h⟩ := g_bd h
                                                    refine go_callV (pc := 914) (as := [.inl (xs0 (v3 + (1 : Int32)).toNatClampNeg), .inl (xs0 (v3 + (2 : Int32)).toNatClampNeg), .inl (xs0 (v3 + (3 : Int32)).toNatClampNeg)]) (st := []) (r := u187.1) (M1 := u187.2) (z_X8_carry hok  c188) cw_X8_carry ml_L_105 (show g_lay[0]? = some _ from rfl) rfl rfl (by decide) (Nat.le_of_ble_eq_true rfl) rfl dL_law_914 ?_
                                                    refine go_aload_n (pc := 917) dL_law_917 rfl ?_
                                                    refine go_aload_n (pc := 918) dL_law_918 rfl ?_
                                                    refine go_iload_n (pc := 919) dL_law_919 rfl ?_
                                                    refine go_iconst (pc := 920) (v := (1 : Int32)) dL_law_920 (by decide) ?_
                                                    refine go_iadd (pc := 921) dL_law_921 ?_
                                                    obtain ⟨i189, h⟩ := g_gd h
                                                    refine go_xld (pc := 922) (n := n0) (xs := xs0) hn0 hx0 (g_inb_ok i189) dL_law_922 ?_
                                                    refine go_aload_n (pc := 923) dL_law_923 rfl ?_
                                                    refine go_iload_n (pc := 924) dL_law_924 rfl ?_
                                                    refine go_iconst (pc := 925) (v := (2 : Int32)) dL_law_925 (by decide) ?_
                                                    refine go_iadd (pc := 926) dL_law_926 ?_
                                                    obtain ⟨i190, h⟩ := g_gd h
                                                    refine go_xld (pc := 927) (n := n0) (xs := xs0) hn0 hx0 (g_inb_ok i190) dL_law_927 ?_
                                                    refine go_aload_n (pc := 928) dL_law_928 rfl ?_
                                                    refine go_iload_n (pc := 929) dL_law_929 rfl ?_
                                                    refine go_iconst (pc := 930) (v := (3 : Int32)) dL_law_930 (by decide) ?_
                                                    refine go_iadd (pc := 931) dL_law_931 ?_
                                                    obtain ⟨i191, h⟩ := g_gd h
                                                    refine go_xld (pc := 932) (n := n0) (xs := xs0) hn0 hx0 (g_inb_ok i191) dL_law_932 ?_
                                                    obtain ⟨u192, c193, h⟩ := g_bd h
                                                    refine go_callV (pc := 933) (as := [.inl (xs0 (v3 + (1 : Int32)).toNatClampNeg), .inl (xs0 (v3 + (2 : Int32)).toNatClampNeg), .inl (xs0 (v3 + (3 : Int32)).toNatClampNeg)]) (st := [.inl u187.1]) (r := u192.1) (M1 := u192.2) (z_X9_carry hok  c193) cw_X9_carry ml_L_108 (show g_lay[41]? = some _ from rfl) rfl rfl (by decide) (Nat.le_of_ble_eq_true rfl) rfl dL_law_933 ?_
                                                    refine go_icmp_eq (pc := 936) (tgt := 1765) dL_law_936 (by decide) (fun e194 => ?_) (fun e194 => ?_)
                                                    · replace h := (if_pos e194).symm.trans h
                                                      refine go_iinc (pc := 1765) (v := (5 : Int32)) (lv' := [some (.inr 5000), some (.inr 0), some (.inr 41), some (.inl (v3 + (5 : Int32)))]) dL_law_1765 rfl (by decide) (by decide) rfl ?_
                                                      refine go_goto (pc := 1768) (tgt := 18) dL_law_1768 (by decide) ?_
                                                      exact go_to (ih _ _ h) (And.intro rfl (And.intro rfl (And.intro rfl (And.intro rfl trivial))))
                                                    · replace h := (if_neg e194).symm.trans h
                                                      refine go_iconst (pc := 939) (v := (0 : Int32)) dL_law_939 (by decide) ?_
                                                      exact go_iret (pc := 940) (Option.some.inj h).symm rfl dL_law_940 rfl
                                                  · replace h := (if_neg e449).symm.trans h
                                                    by_cases e450 : ((xs0 v3.toNatClampNeg) &&& (63 : Int32)) = (23 : Int32)
                                                    · replace h := (if_pos e450).symm.trans h
                                                      refine go_tabIn (pc := 32) (off := 909) (tgt := 941) dL_law_32 (by rw [e450]; decide) (by rw [e450]; decide) (by rw [e450]; decide) (by decide) ?_
                                                      refine go_aload_n (pc := 941) dL_law_941 rfl ?_
                                                      refine go_aload_n (pc := 942) dL_law_942 rfl ?_
                                                      refine go_iload_n (pc := 943) dL_law_943 rfl ?_
                                                      refine go_iconst (pc := 944) (v := (1 : Int32)) dL_law_944 (by decide) ?_
                                                      refine go_iadd (pc := 945) dL_law_945 ?_
                                                      obtain ⟨i195, h⟩ := g_gd h
                                                      refine go_xld (pc := 946) (n := n0) (xs := xs0) hn0 hx0 (g_inb_ok i195) dL_law_946 ?_
                                                      obtain ⟨u196, c197, h⟩ := g_bd h
                                                      refine go_callV (pc := 947) (as := [.inl (xs0 (v3 + (1 : Int32)).toNatClampNeg)]) (st := []) (r := u196.1) (M1 := u196.2) (z_X8_berths hok  c197) cw_X8_berths ml_L_109 (show g_lay[0]? = some _ from rfl) rfl rfl (by decide) (Nat.le_of_ble_eq_true rfl) rfl dL_law_947 ?_
                                                      refine go_aload_n (pc := 950) dL_law_950 rfl ?_
                                                      refine go_aload_n (pc := 951) dL_law_951 rfl ?_
                                                      refine go_iload_n (pc := 952) dL_law_952 rfl ?_
                                                      refine go_iconst (pc := 953) (v := (1 : Int32)) dL_law_953 (by decide) ?_
                                                      refine go_iadd (pc := 954) dL_law_954 ?_
                                                      obtain ⟨i198, h⟩ := g_gd h
                                                      refine go_xld (pc := 955) (n := n0) (xs := xs0) hn0 hx0 (g_inb_ok i198) dL_law_955 ?_
                                                      obtain ⟨u199, c200, h⟩ := g_bd h
                                                      refine go_callV (pc := 956) (as := [.inl (xs0 (v3 + (1 : Int32)).toNatClampNeg)]) (st := [.inl u196.1]) (r := u199.1) (M1 := u199.2) (z_X9_berths hok  c200) cw_X9_berths ml_L_112 (show g_lay[41]? = some _ from rfl) rfl rfl (by decide) (Nat.le_of_ble_eq_true rfl) rfl dL_law_956 ?_
                                                      refine go_icmp_eq (pc := 959) (tgt := 1765) dL_law_959 (by decide) (fun e201 => ?_) (fun e201 => ?_)
                                                      · replace h := (if_pos e201).symm.trans h
                                                        refine go_iinc (pc := 1765) (v := (5 : Int32)) (lv' := [some (.inr 5000), some (.inr 0), some (.inr 41), some (.inl (v3 + (5 : Int32)))]) dL_law_1765 rfl (by decide) (by decide) rfl ?_
                                                        refine go_goto (pc := 1768) (tgt := 18) dL_law_1768 (by decide) ?_
                                                        exact go_to (ih _ _ h) (And.intro rfl (And.intro rfl (And.intro rfl (And.intro rfl trivial))))
                                                      · replace h := (if_neg e201).symm.trans h
                                                        refine go_iconst (pc := 962) (v := (0 : Int32)) dL_law_962 (by decide) ?_
                                                        exact go_iret (pc := 963) (Option.some.inj h).symm rfl dL_law_963 rfl
                                                    · replace h := (if_neg e450).symm.trans h
                                                      by_cases e451 : ((xs0 v3.toNatClampNeg) &&& (63 : Int32)) = (24 : Int32)
                                                      · replace h := (if_pos e451).symm.trans h
                                                        refine go_tabIn (pc := 32) (off := 932) (tgt := 964) dL_law_32 (by rw [e451]; decide) (by rw [e451]; decide) (by rw [e451]; decide) (by decide) ?_
                                                        refine go_aload_n (pc := 964) dL_law_964 rfl ?_
                                                        refine go_aload_n (pc := 965) dL_law_965 rfl ?_
                                                        refine go_iload_n (pc := 966) dL_law_966 rfl ?_
                                                        refine go_iconst (pc := 967) (v := (1 : Int32)) dL_law_967 (by decide) ?_
                                                        refine go_iadd (pc := 968) dL_law_968 ?_
                                                        obtain ⟨i202, h⟩ := g_gd h
                                                        refine go_xld (pc := 969) (n := n0) (xs := xs0) hn0 hx0 (g_inb_ok i202) dL_law_969 ?_
                                                        refine go_aload_n (pc := 970) dL_law_970 rfl ?_
                                                        refine go_iload_n (pc := 971) dL_law_971 rfl ?_
                                                        refine go_iconst (pc := 972) (v := (2 : Int32)) dL_law_972 (by decide) ?_
                                                        refine go_iadd (pc := 973) dL_law_973 ?_
                                                        obtain ⟨i203, h⟩ := g_gd h
                                                        refine go_xld (pc := 974) (n := n0) (xs := xs0) hn0 hx0 (g_inb_ok i203) dL_law_974 ?_
                                                        obtain ⟨u204, c205, h⟩ := g_bd h
                                                        refine go_callV (pc := 975) (as := [.inl (xs0 (v3 + (1 : Int32)).toNatClampNeg), .inl (xs0 (v3 + (2 : Int32)).toNatClampNeg)]) (st := []) (r := u204.1) (M1 := u204.2) (z_X8_saves hok  c205) cw_X8_saves ml_L_113 (show g_lay[0]? = some _ from rfl) rfl rfl (by decide) (Nat.le_of_ble_eq_true rfl) rfl dL_law_975 ?_
                                                        refine go_aload_n (pc := 978) dL_law_978 rfl ?_
                                                        refine go_aload_n (pc := 979) dL_law_979 rfl ?_
                                                        refine go_iload_n (pc := 980) dL_law_980 rfl ?_
                                                        refine go_iconst (pc := 981) (v := (1 : Int32)) dL_law_981 (by decide) ?_
                                                        refine go_iadd (pc := 982) dL_law_982 ?_
                                                        obtain ⟨i206, h⟩ := g_gd h
                                                        refine go_xld (pc := 983) (n := n0) (xs := xs0) hn0 hx0 (g_inb_ok i206) dL_law_983 ?_
                                                        refine go_aload_n (pc := 984) dL_law_984 rfl ?_
                                                        refine go_iload_n (pc := 985) dL_law_985 rfl ?_
                                                        refine go_iconst (pc := 986) (v := (2 : Int32)) dL_law_986 (by decide) ?_
                                                        refine go_iadd (pc := 987) dL_law_987 ?_
                                                        obtain ⟨i207, h⟩ := g_gd h
                                                        refine go_xld (pc := 988) (n := n0) (xs := xs0) hn0 hx0 (g_inb_ok i207) dL_law_988 ?_
                                                        obtain ⟨u208, c209, h⟩ := g_bd h
                                                        refine go_callV (pc := 989) (as := [.inl (xs0 (v3 + (1 : Int32)).toNatClampNeg), .inl (xs0 (v3 + (2 : Int32)).toNatClampNeg)]) (st := [.inl u204.1]) (r := u208.1) (M1 := u208.2) (z_X9_saves hok  c209) cw_X9_saves ml_L_116 (show g_lay[41]? = some _ from rfl) rfl rfl (by decide) (Nat.le_of_ble_eq_true rfl) rfl dL_law_989 ?_
                                                        refine go_icmp_eq (pc := 992) (tgt := 1765) dL_law_992 (by decide) (fun e210 => ?_) (fun e210 => ?_)
                                                        · replace h := (if_pos e210).symm.trans h
                                                          refine go_iinc (pc := 1765) (v := (5 : Int32)) (lv' := [some (.inr 5000), some (.inr 0), some (.inr 41), some (.inl (v3 + (5 : Int32)))]) dL_law_1765 rfl (by decide) (by decide) rfl ?_
                                                          refine go_goto (pc := 1768) (tgt := 18) dL_law_1768 (by decide) ?_
                                                          exact go_to (ih _ _ h) (And.intro rfl (And.intro rfl (And.intro rfl (And.intro rfl trivial))))
                                                        · replace h := (if_neg e210).symm.trans h
                                                          refine go_iconst (pc := 995) (v := (0 : Int32)) dL_law_995 (by decide) ?_
                                                          exact go_iret (pc := 996) (Option.some.inj h).symm rfl dL_law_996 rfl
                                                      · replace h := (if_neg e451).symm.trans h
                                                        by_cases e452 : ((xs0 v3.toNatClampNeg) &&& (63 : Int32)) = (25 : Int32)
                                                        · replace h := (if_pos e452).symm.trans h
                                                          refine go_tabIn (pc := 32) (off := 965) (tgt := 997) dL_law_32 (by rw [e452]; decide) (by rw [e452]; decide) (by rw [e452]; decide) (by decide) ?_
                                                          refine go_aload_n (pc := 997) dL_law_997 rfl ?_
                                                          refine go_aload_n (pc := 998) dL_law_998 rfl ?_
                                                          refine go_iload_n (pc := 999) dL_law_999 rfl ?_
                                                          refine go_iconst (pc := 1000) (v := (1 : Int32)) dL_law_1000 (by decide) ?_
                                                          refine go_iadd (pc := 1001) dL_law_1001 ?_
                                                          obtain ⟨i211, h⟩ := g_gd h
                                                          refine go_xld (pc := 1002) (n := n0) (xs := xs0) hn0 hx0 (g_inb_ok i211) dL_law_1002 ?_
                                                          refine go_aload_n (pc := 1003) dL_law_1003 rfl ?_
                                                          refine go_iload_n (pc := 1004) dL_law_1004 rfl ?_
                                                          refine go_iconst (pc := 1005) (v := (2 : Int32)) dL_law_1005 (by decide) ?_
                                                          refine go_iadd (pc := 1006) dL_law_1006 ?_
                                                          obtain ⟨i212, h⟩ := g_gd h
                                                          refine go_xld (pc := 1007) (n := n0) (xs := xs0) hn0 hx0 (g_inb_ok i212) dL_law_1007 ?_
                                                          refine go_aload_n (pc := 1008) dL_law_1008 rfl ?_
                                                          refine go_iload_n (pc := 1009) dL_law_1009 rfl ?_
                                                          refine go_iconst (pc := 1010) (v := (3 : Int32)) dL_law_1010 (by decide) ?_
                                                          refine go_iadd (pc := 1011) dL_law_1011 ?_
                                                          obtain ⟨i213, h⟩ := g_gd h
                                                          refine go_xld (pc := 1012) (n := n0) (xs := xs0) hn0 hx0 (g_inb_ok i213) dL_law_1012 ?_
                                                          obtain ⟨u214, c215, h⟩ := g_bd h
                                                          refine go_callV (pc := 1013) (as := [.inl (xs0 (v3 + (1 : Int32)).toNatClampNeg), .inl (xs0 (v3 + (2 : Int32)).toNatClampNeg), .inl (xs0 (v3 + (3 : Int32)).toNatClampNeg)]) (st := []) (r := u214.1) (M1 := u214.2) (z_X8_marks hok  c215) cw_X8_marks ml_L_117 (show g_lay[0]? = some _ from rfl) rfl rfl (by decide) (Nat.le_of_ble_eq_true rfl) rfl dL_law_1013 ?_
                                                          refine go_aload_n (pc := 1016) dL_law_1016 rfl ?_
                                                          refine go_aload_n (pc := 1017) dL_law_1017 rfl ?_
                                                          refine go_iload_n (pc := 1018) dL_law_1018 rfl ?_
                                                          refine go_iconst (pc := 1019) (v := (1 : Int32)) dL_law_1019 (by decide) ?_
                                                          refine go_iadd (pc := 1020) dL_law_1020 ?_
                                                          obtain ⟨i216, h⟩ := g_gd h
                                                          refine go_xld (pc := 1021) (n := n0) (xs := xs0) hn0 hx0 (g_inb_ok i216) dL_law_1021 ?_
                                                          refine go_aload_n (pc := 1022) dL_law_1022 rfl ?_
                                                          refine go_iload_n (pc := 1023) dL_law_1023 rfl ?_
                                                          refine go_iconst (pc := 1024) (v := (2 : Int32)) dL_law_1024 (by decide) ?_
                                                          refine go_iadd (pc := 1025) dL_law_1025 ?_
                                                          obtain ⟨i217, h⟩ := g_gd h
                                                          refine go_xld (pc := 1026) (n := n0) (xs := xs0) hn0 hx0 (g_inb_ok i217) dL_law_1026 ?_
                                                          refine go_aload_n (pc := 1027) dL_law_1027 rfl ?_
                                                          refine go_iload_n (pc := 1028) dL_law_1028 rfl ?_
                                                          refine go_iconst (pc := 1029) (v := (3 : Int32)) dL_law_1029 (by decide) ?_
                                                          refine go_iadd (pc := 1030) dL_law_1030 ?_
                                                          obtain ⟨i218, h⟩ := g_gd h
                                                          refine go_xld (pc := 1031) (n := n0) (xs := xs0) hn0 hx0 (g_inb_ok i218) dL_law_1031 ?_
                                                          obtain ⟨u219, c220, h⟩ := g_bd h
                                                          refine go_callV (pc := 1032) (as := [.inl (xs0 (v3 + (1 : Int32)).toNatClampNeg), .inl (xs0 (v3 + (2 : Int32)).toNatClampNeg), .inl (xs0 (v3 + (3 : Int32)).toNatClampNeg)]) (st := [.inl u214.1]) (r := u219.1) (M1 := u219.2) (z_X9_marks hok  c220) cw_X9_marks ml_L_120 (show g_lay[41]? = some _ from rfl) rfl rfl (by decide) (Nat.le_of_ble_eq_true rfl) rfl dL_law_1032 ?_
                                                          refine go_icmp_eq (pc := 1035) (tgt := 1765) dL_law_1035 (by decide) (fun e221 => ?_) (fun e221 => ?_)
                                                          · replace h := (if_pos e221).symm.trans h
                                                            refine go_iinc (pc := 1765) (v := (5 : Int32)) (lv' := [some (.inr 5000), some (.inr 0), some (.inr 41), some (.inl (v3 + (5 : Int32)))]) dL_law_1765 rfl (by decide) (by decide) rfl ?_
                                                            refine go_goto (pc := 1768) (tgt := 18) dL_law_1768 (by decide) ?_
                                                            exact go_to (ih _ _ h) (And.intro rfl (And.intro rfl (And.intro rfl (And.intro rfl trivial))))
                                                          · replace h := (if_neg e221).symm.trans h
                                                            refine go_iconst (pc := 1038) (v := (0 : Int32)) dL_law_1038 (by decide) ?_
                                                            exact go_iret (pc := 1039) (Option.some.inj h).symm rfl dL_law_1039 rfl
                                                        · replace h := (if_neg e452).symm.trans h
                                                          by_cases e453 : ((xs0 v3.toNatClampNeg) &&& (63 : Int32)) = (26 : Int32)
                                                          · replace h := (if_pos e453).symm.trans h
                                                            refine go_tabIn (pc := 32) (off := 1008) (tgt := 1040) dL_law_32 (by rw [e453]; decide) (by rw [e453]; decide) (by rw [e453]; decide) (by decide) ?_
                                                            refine go_aload_n (pc := 1040) dL_law_1040 rfl ?_
                                                            refine go_aload_n (pc := 1041) dL_law_1041 rfl ?_
                                                            refine go_iload_n (pc := 1042) dL_law_1042 rfl ?_
                                                            refine go_iconst (pc := 1043) (v := (1 : Int32)) dL_law_1043 (by decide) ?_
                                                            refine go_iadd (pc := 1044) dL_law_1044 ?_
                                                            obtain ⟨i222, h⟩ := g_gd h
                                                            refine go_xld (pc := 1045) (n := n0) (xs := xs0) hn0 hx0 (g_inb_ok i222) dL_law_1045 ?_
                                                            obtain ⟨u223, c224, h⟩ := g_bd h
                                                            refine go_callV (pc := 1046) (as := [.inl (xs0 (v3 + (1 : Int32)).toNatClampNeg)]) (st := []) (r := u223.1) (M1 := u223.2) (z_X8_whose hok  c224) cw_X8_whose ml_L_121 (show g_lay[0]? = some _ from rfl) rfl rfl (by decide) (Nat.le_of_ble_eq_true rfl) rfl dL_law_1046 ?_
                                                            refine go_aload_n (pc := 1049) dL_law_1049 rfl ?_
                                                            refine go_aload_n (pc := 1050) dL_law_1050 rfl ?_
                                                            refine go_iload_n (pc := 1051) dL_law_1051 rfl ?_
                                                            refine go_iconst (pc := 1052) (v := (1 : Int32)) dL_law_1052 (by decide) ?_
                                                            refine go_iadd (pc := 1053) dL_law_1053 ?_
                                                            obtain ⟨i225, h⟩ := g_gd h
                                                            refine go_xld (pc := 1054) (n := n0) (xs := xs0) hn0 hx0 (g_inb_ok i225) dL_law_1054 ?_
                                                            obtain ⟨u226, c227, h⟩ := g_bd h
                                                            refine go_callV (pc := 1055) (as := [.inl (xs0 (v3 + (1 : Int32)).toNatClampNeg)]) (st := [.inl u223.1]) (r := u226.1) (M1 := u226.2) (z_X9_whose hok  c227) cw_X9_whose ml_L_124 (show g_lay[41]? = some _ from rfl) rfl rfl (by decide) (Nat.le_of_ble_eq_true rfl) rfl dL_law_1055 ?_
                                                            refine go_icmp_eq (pc := 1058) (tgt := 1765) dL_law_1058 (by decide) (fun e228 => ?_) (fun e228 => ?_)
                                                            · replace h := (if_pos e228).symm.trans h
                                                              refine go_iinc (pc := 1765) (v := (5 : Int32)) (lv' := [some (.inr 5000), some (.inr 0), some (.inr 41), some (.inl (v3 + (5 : Int32)))]) dL_law_1765 rfl (by decide) (by decide) rfl ?_
                                                              refine go_goto (pc := 1768) (tgt := 18) dL_law_1768 (by decide) ?_
                                                              exact go_to (ih _ _ h) (And.intro rfl (And.intro rfl (And.intro rfl (And.intro rfl trivial))))
                                                            · replace h := (if_neg e228).symm.trans h
                                                              refine go_iconst (pc := 1061) (v := (0 : Int32)) dL_law_1061 (by decide) ?_
                                                              exact go_iret (pc := 1062) (Option.some.inj h).symm rfl dL_law_1062 rfl
                                                          · replace h := (if_neg e453).symm.trans h
                                                            by_cases e454 : ((xs0 v3.toNatClampNeg) &&& (63 : Int32)) = (27 : Int32)
                                                            · replace h := (if_pos e454).symm.trans h
                                                              refine go_tabIn (pc := 32) (off := 1031) (tgt := 1063) dL_law_32 (by rw [e454]; decide) (by rw [e454]; decide) (by rw [e454]; decide) (by decide) ?_
                                                              refine go_aload_n (pc := 1063) dL_law_1063 rfl ?_
                                                              refine go_aload_n (pc := 1064) dL_law_1064 rfl ?_
                                                              refine go_iload_n (pc := 1065) dL_law_1065 rfl ?_
                                                              refine go_iconst (pc := 1066) (v := (1 : Int32)) dL_law_1066 (by decide) ?_
                                                              refine go_iadd (pc := 1067) dL_law_1067 ?_
                                                              obtain ⟨i229, h⟩ := g_gd h
                                                              refine go_xld (pc := 1068) (n := n0) (xs := xs0) hn0 hx0 (g_inb_ok i229) dL_law_1068 ?_
                                                              obtain ⟨u230, c231, h⟩ := g_bd h
                                                              refine go_callV (pc := 1069) (as := [.inl (xs0 (v3 + (1 : Int32)).toNatClampNeg)]) (st := []) (r := u230.1) (M1 := u230.2) (z_X8_row hok  c231) cw_X8_row ml_L_125 (show g_lay[0]? = some _ from rfl) rfl rfl (by decide) (Nat.le_of_ble_eq_true rfl) rfl dL_law_1069 ?_
                                                              refine go_aload_n (pc := 1072) dL_law_1072 rfl ?_
                                                              refine go_aload_n (pc := 1073) dL_law_1073 rfl ?_
                                                              refine go_iload_n (pc := 1074) dL_law_1074 rfl ?_
                                                              refine go_iconst (pc := 1075) (v := (1 : Int32)) dL_law_1075 (by decide) ?_
                                                              refine go_iadd (pc := 1076) dL_law_1076 ?_
                                                              obtain ⟨i232, h⟩ := g_gd h
                                                              refine go_xld (pc := 1077) (n := n0) (xs := xs0) hn0 hx0 (g_inb_ok i232) dL_law_1077 ?_
                                                              obtain ⟨u233, c234, h⟩ := g_bd h
                                                              refine go_callV (pc := 1078) (as := [.inl (xs0 (v3 + (1 : Int32)).toNatClampNeg)]) (st := [.inl u230.1]) (r := u233.1) (M1 := u233.2) (z_X9_row hok  c234) cw_X9_row ml_L_128 (show g_lay[41]? = some _ from rfl) rfl rfl (by decide) (Nat.le_of_ble_eq_true rfl) rfl dL_law_1078 ?_
                                                              refine go_icmp_eq (pc := 1081) (tgt := 1765) dL_law_1081 (by decide) (fun e235 => ?_) (fun e235 => ?_)
                                                              · replace h := (if_pos e235).symm.trans h
                                                                refine go_iinc (pc := 1765) (v := (5 : Int32)) (lv' := [some (.inr 5000), some (.inr 0), some (.inr 41), some (.inl (v3 + (5 : Int32)))]) dL_law_1765 rfl (by decide) (by decide) rfl ?_
                                                                refine go_goto (pc := 1768) (tgt := 18) dL_law_1768 (by decide) ?_
                                                                exact go_to (ih _ _ h) (And.intro rfl (And.intro rfl (And.intro rfl (And.intro rfl trivial))))
                                                              · replace h := (if_neg e235).symm.trans h
                                                                refine go_iconst (pc := 1084) (v := (0 : Int32)) dL_law_1084 (by decide) ?_
                                                                exact go_iret (pc := 1085) (Option.some.inj h).symm rfl dL_law_1085 rfl
                                                            · replace h := (if_neg e454).symm.trans h
                                                              by_cases e455 : ((xs0 v3.toNatClampNeg) &&& (63 : Int32)) = (28 : Int32)
                                                              · replace h := (if_pos e455).symm.trans h
                                                                refine go_tabIn (pc := 32) (off := 1054) (tgt := 1086) dL_law_32 (by rw [e455]; decide) (by rw [e455]; decide) (by rw [e455]; decide) (by decide) ?_
                                                                refine go_aload_n (pc := 1086) dL_law_1086 rfl ?_
                                                                refine go_aload_n (pc := 1087) dL_law_1087 rfl ?_
                                                                refine go_iload_n (pc := 1088) dL_law_1088 rfl ?_
                                                                refine go_iconst (pc := 1089) (v := (1 : Int32)) dL_law_1089 (by decide) ?_
                                                                refine go_iadd (pc := 1090) dL_law_1090 ?_
                                                                obtain ⟨i236, h⟩ := g_gd h
                                                                refine go_xld (pc := 1091) (n := n0) (xs := xs0) hn0 hx0 (g_inb_ok i236) dL_law_1091 ?_
                                                                obtain ⟨u237, c238, h⟩ := g_bd h
                                                                refine go_callV (pc := 1092) (as := [.inl (xs0 (v3 + (1 : Int32)).toNatClampNeg)]) (st := []) (r := u237.1) (M1 := u237.2) (z_X8_judge hok  c238) cw_X8_judge ml_L_129 (show g_lay[0]? = some _ from rfl) rfl rfl (by decide) (Nat.le_of_ble_eq_true rfl) rfl dL_law_1092 ?_
                                                                refine go_aload_n (pc := 1095) dL_law_1095 rfl ?_
                                                                refine go_aload_n (pc := 1096) dL_law_1096 rfl ?_
                                                                refine go_iload_n (pc := 1097) dL_law_1097 rfl ?_
                                                                refine go_iconst (pc := 1098) (v := (1 : Int32)) dL_law_1098 (by decide) ?_
                                                                refine go_iadd (pc := 1099) dL_law_1099 ?_
                                                                obtain ⟨i239, h⟩ := g_gd h
                                                                refine go_xld (pc := 1100) (n := n0) (xs := xs0) hn0 hx0 (g_inb_ok i239) dL_law_1100 ?_
                                                                obtain ⟨u240, c241, h⟩ := g_bd h
                                                                refine go_callV (pc := 1101) (as := [.inl (xs0 (v3 + (1 : Int32)).toNatClampNeg)]) (st := [.inl u237.1]) (r := u240.1) (M1 := u240.2) (z_X9_judge hok  c241) cw_X9_judge ml_L_132 (show g_lay[41]? = some _ from rfl) rfl rfl (by decide) (Nat.le_of_ble_eq_true rfl) rfl dL_law_1101 ?_
                                                                refine go_icmp_eq (pc := 1104) (tgt := 1765) dL_law_1104 (by decide) (fun e242 => ?_) (fun e242 => ?_)
                                                                · replace h := (if_pos e242).symm.trans h
                                                                  refine go_iinc (pc := 1765) (v := (5 : Int32)) (lv' := [some (.inr 5000), some (.inr 0), some (.inr 41), some (.inl (v3 + (5 : Int32)))]) dL_law_1765 rfl (by decide) (by decide) rfl ?_
                                                                  refine go_goto (pc := 1768) (tgt := 18) dL_law_1768 (by decide) ?_
                                                                  exact go_to (ih _ _ h) (And.intro rfl (And.intro rfl (And.intro rfl (And.intro rfl trivial))))
                                                                · replace h := (if_neg e242).symm.trans h
                                                                  refine go_iconst (pc := 1107) (v := (0 : Int32)) dL_law_1107 (by decide) ?_
                                                                  exact go_iret (pc := 1108) (Option.some.inj h).symm rfl dL_law_1108 rfl
                                                              · replace h := (if_neg e455).symm.trans h
                                                                by_cases e456 : ((xs0 v3.toNatClampNeg) &&& (63 : Int32)) = (29 : Int32)
                                                                · replace h := (if_pos e456).symm.trans h
                                                                  refine go_tabIn (pc := 32) (off := 1077) (tgt := 1109) dL_law_32 (by rw [e456]; decide) (by rw [e456]; decide) (by rw [e456]; decide) (by decide) ?_
                                                                  refine go_aload_n (pc := 1109) dL_law_1109 rfl ?_
                                                                  obtain ⟨u243, c244, h⟩ := g_bd h
                                                                  refine go_callV (pc := 1110) (as := []) (st := []) (r := u243.1) (M1 := u243.2) (z_X8_drop hok  c244) cw_X8_drop ml_L_133 (show g_lay[0]? = some _ from rfl) rfl rfl (by decide) (Nat.le_of_ble_eq_true rfl) rfl dL_law_1110 ?_
                                                                  refine go_aload_n (pc := 1113) dL_law_1113 rfl ?_
                                                                  obtain ⟨u245, c246, h⟩ := g_bd h
                                                                  refine go_callV (pc := 1114) (as := []) (st := [.inl u243.1]) (r := u245.1) (M1 := u245.2) (z_X9_drop hok  c246) cw_X9_drop ml_L_136 (show g_lay[41]? = some _ from rfl) rfl rfl (by decide) (Nat.le_of_ble_eq_true rfl) rfl dL_law_1114 ?_
                                                                  refine go_icmp_eq (pc := 1117) (tgt := 1765) dL_law_1117 (by decide) (fun e247 => ?_) (fun e247 => ?_)
                                                                  · replace h := (if_pos e247).symm.trans h
                                                                    refine go_iinc (pc := 1765) (v := (5 : Int32)) (lv' := [some (.inr 5000), some (.inr 0), some (.inr 41), some (.inl (v3 + (5 : Int32)))]) dL_law_1765 rfl (by decide) (by decide) rfl ?_
                                                                    refine go_goto (pc := 1768) (tgt := 18) dL_law_1768 (by decide) ?_
                                                                    exact go_to (ih _ _ h) (And.intro rfl (And.intro rfl (And.intro rfl (And.intro rfl trivial))))
                                                                  · replace h := (if_neg e247).symm.trans h
                                                                    refine go_iconst (pc := 1120) (v := (0 : Int32)) dL_law_1120 (by decide) ?_
                                                                    exact go_iret (pc := 1121) (Option.some.inj h).symm rfl dL_law_1121 rfl
                                                                · replace h := (if_neg e456).symm.trans h
                                                                  by_cases e457 : ((xs0 v3.toNatClampNeg) &&& (63 : Int32)) = (30 : Int32)
                                                                  · replace h := (if_pos e457).symm.trans h
                                                                    refine go_tabIn (pc := 32) (off := 1090) (tgt := 1122) dL_law_32 (by rw [e457]; decide) (by rw [e457]; decide) (by rw [e457]; decide) (by decide) ?_
                                                                    refine go_aload_n (pc := 1122) dL_law_1122 rfl ?_
                                                                    refine go_aload_n (pc := 1123) dL_law_1123 rfl ?_
                                                                    refine go_iload_n (pc := 1124) dL_law_1124 rfl ?_
                                                                    refine go_iconst (pc := 1125) (v := (1 : Int32)) dL_law_1125 (by decide) ?_
                                                                    refine go_iadd (pc := 1126) dL_law_1126 ?_
                                                                    obtain ⟨i248, h⟩ := g_gd h
                                                                    refine go_xld (pc := 1127) (n := n0) (xs := xs0) hn0 hx0 (g_inb_ok i248) dL_law_1127 ?_
                                                                    refine go_aload_n (pc := 1128) dL_law_1128 rfl ?_
                                                                    refine go_iload_n (pc := 1129) dL_law_1129 rfl ?_
                                                                    refine go_iconst (pc := 1130) (v := (2 : Int32)) dL_law_1130 (by decide) ?_
                                                                    refine go_iadd (pc := 1131) dL_law_1131 ?_
                                                                    obtain ⟨i249, h⟩ := g_gd h
                                                                    refine go_xld (pc := 1132) (n := n0) (xs := xs0) hn0 hx0 (g_inb_ok i249) dL_law_1132 ?_
                                                                    refine go_aload_n (pc := 1133) dL_law_1133 rfl ?_
                                                                    refine go_iload_n (pc := 1134) dL_law_1134 rfl ?_
                                                                    refine go_iconst (pc := 1135) (v := (3 : Int32)) dL_law_1135 (by decide) ?_
                                                                    refine go_iadd (pc := 1136) dL_law_1136 ?_
                                                                    obtain ⟨i250, h⟩ := g_gd h
                                                                    refine go_xld (pc := 1137) (n := n0) (xs := xs0) hn0 hx0 (g_inb_ok i250) dL_law_1137 ?_
                                                                    refine go_aload_n (pc := 1138) dL_law_1138 rfl ?_
                                                                    refine go_iload_n (pc := 1139) dL_law_1139 rfl ?_
                                                                    refine go_iconst (pc := 1140) (v := (4 : Int32)) dL_law_1140 (by decide) ?_
                                                                    refine go_iadd (pc := 1141) dL_law_1141 ?_
                                                                    obtain ⟨i251, h⟩ := g_gd h
                                                                    refine go_xld (pc := 1142) (n := n0) (xs := xs0) hn0 hx0 (g_inb_ok i251) dL_law_1142 ?_
                                                                    obtain ⟨u252, c253, h⟩ := g_bd h
                                                                    refine go_callV (pc := 1143) (as := [.inl (xs0 (v3 + (1 : Int32)).toNatClampNeg), .inl (xs0 (v3 + (2 : Int32)).toNatClampNeg), .inl (xs0 (v3 + (3 : Int32)).toNatClampNeg), .inl (xs0 (v3 + (4 : Int32)).toNatClampNeg)]) (st := []) (r := u252.1) (M1 := u252.2) (z_X8_seeds hok  c253) cw_X8_seeds ml_L_137 (show g_lay[0]? = some _ from rfl) rfl rfl (by decide) (Nat.le_of_ble_eq_true rfl) rfl dL_law_1143 ?_
                                                                    refine go_aload_n (pc := 1146) dL_law_1146 rfl ?_
                                                                    refine go_aload_n (pc := 1147) dL_law_1147 rfl ?_
                                                                    refine go_iload_n (pc := 1148) dL_law_1148 rfl ?_
                                                                    refine go_iconst (pc := 1149) (v := (1 : Int32)) dL_law_1149 (by decide) ?_
                                                                    refine go_iadd (pc := 1150) dL_law_1150 ?_
                                                                    obtain ⟨i254, h⟩ := g_gd h
                                                                    refine go_xld (pc := 1151) (n := n0) (xs := xs0) hn0 hx0 (g_inb_ok i254) dL_law_1151 ?_
                                                                    refine go_aload_n (pc := 1152) dL_law_1152 rfl ?_
                                                                    refine go_iload_n (pc := 1153) dL_law_1153 rfl ?_
                                                                    refine go_iconst (pc := 1154) (v := (2 : Int32)) dL_law_1154 (by decide) ?_
                                                                    refine go_iadd (pc := 1155) dL_law_1155 ?_
                                                                    obtain ⟨i255, h⟩ := g_gd h
                                                                    refine go_xld (pc := 1156) (n := n0) (xs := xs0) hn0 hx0 (g_inb_ok i255) dL_law_1156 ?_
                                                                    refine go_aload_n (pc := 1157) dL_law_1157 rfl ?_
                                                                    refine go_iload_n (pc := 1158) dL_law_1158 rfl ?_
                                                                    refine go_iconst (pc := 1159) (v := (3 : Int32)) dL_law_1159 (by decide) ?_
                                                                    refine go_iadd (pc := 1160) dL_law_1160 ?_
                                                                    obtain ⟨i256, h⟩ := g_gd h
                                                                    refine go_xld (pc := 1161) (n := n0) (xs := xs0) hn0 hx0 (g_inb_ok i256) dL_law_1161 ?_
                                                                    refine go_aload_n (pc := 1162) dL_law_1162 rfl ?_
                                                                    refine go_iload_n (pc := 1163) dL_law_1163 rfl ?_
                                                                    refine go_iconst (pc := 1164) (v := (4 : Int32)) dL_law_1164 (by decide) ?_
                                                                    refine go_iadd (pc := 1165) dL_law_1165 ?_
                                                                    obtain ⟨i257, h⟩ := g_gd h
                                                                    refine go_xld (pc := 1166) (n := n0) (xs := xs0) hn0 hx0 (g_inb_ok i257) dL_law_1166 ?_
                                                                    obtain ⟨u258, c259, h⟩ := g_bd h
                                                                    refine go_callV (pc := 1167) (as := [.inl (xs0 (v3 + (1 : Int32)).toNatClampNeg), .inl (xs0 (v3 + (2 : Int32)).toNatClampNeg), .inl (xs0 (v3 + (3 : Int32)).toNatClampNeg), .inl (xs0 (v3 + (4 : Int32)).toNatClampNeg)]) (st := [.inl u252.1]) (r := u258.1) (M1 := u258.2) (z_X9_seeds hok  c259) cw_X9_seeds ml_L_141 (show g_lay[41]? = some _ from rfl) rfl rfl (by decide) (Nat.le_of_ble_eq_true rfl) rfl dL_law_1167 ?_
                                                                    refine go_icmp_eq (pc := 1170) (tgt := 1765) dL_law_1170 (by decide) (fun e260 => ?_) (fun e260 => ?_)
                                                                    · replace h := (if_pos e260).symm.trans h
                                                                      refine go_iinc (pc := 1765) (v := (5 : Int32)) (lv' := [some (.inr 5000), some (.inr 0), some (.inr 41), some (.inl (v3 + (5 : Int32)))]) dL_law_1765 rfl (by decide) (by decide) rfl ?_
                                                                      refine go_goto (pc := 1768) (tgt := 18) dL_law_1768 (by decide) ?_
                                                                      exact go_to (ih _ _ h) (And.intro rfl (And.intro rfl (And.intro rfl (And.intro rfl trivial))))
                                                                    · replace h := (if_neg e260).symm.trans h
                                                                      refine go_iconst (pc := 1173) (v := (0 : Int32)) dL_law_1173 (by decide) ?_
                                                                      exact go_iret (pc := 1174) (Option.some.inj h).symm rfl dL_law_1174 rfl
                                                                  · replace h := (if_neg e457).symm.trans h
                                                                    by_cases e458 : ((xs0 v3.toNatClampNeg) &&& (63 : Int32)) = (31 : Int32)
                                                                    · replace h := (if_pos e458).symm.trans h
                                                                      refine go_tabIn (pc := 32) (off := 1143) (tgt := 1175) dL_law_32 (by rw [e458]; decide) (by rw [e458]; decide) (by rw [e458]; decide) (by decide) ?_
                                                                      refine go_aload_n (pc := 1175) dL_law_1175 rfl ?_
                                                                      obtain ⟨u261, c262, h⟩ := g_bd h
                                                                      refine go_callV (pc := 1176) (as := []) (st := []) (r := u261.1) (M1 := u261.2) (z_X8_back hok  c262) cw_X8_back ml_L_142 (show g_lay[0]? = some _ from rfl) rfl rfl (by decide) (Nat.le_of_ble_eq_true rfl) rfl dL_law_1176 ?_
                                                                      refine go_aload_n (pc := 1179) dL_law_1179 rfl ?_
                                                                      obtain ⟨u263, c264, h⟩ := g_bd h
                                                                      refine go_callV (pc := 1180) (as := []) (st := [.inl u261.1]) (r := u263.1) (M1 := u263.2) (z_X9_back hok  c264) cw_X9_back ml_L_145 (show g_lay[41]? = some _ from rfl) rfl rfl (by decide) (Nat.le_of_ble_eq_true rfl) rfl dL_law_1180 ?_
                                                                      refine go_icmp_eq (pc := 1183) (tgt := 1765) dL_law_1183 (by decide) (fun e265 => ?_) (fun e265 => ?_)
                                                                      · replace h := (if_pos e265).symm.trans h
                                                                        refine go_iinc (pc := 1765) (v := (5 : Int32)) (lv' := [some (.inr 5000), some (.inr 0), some (.inr 41), some (.inl (v3 + (5 : Int32)))]) dL_law_1765 rfl (by decide) (by decide) rfl ?_
                                                                        refine go_goto (pc := 1768) (tgt := 18) dL_law_1768 (by decide) ?_
                                                                        exact go_to (ih _ _ h) (And.intro rfl (And.intro rfl (And.intro rfl (And.intro rfl trivial))))
                                                                      · replace h := (if_neg e265).symm.trans h
                                                                        refine go_iconst (pc := 1186) (v := (0 : Int32)) dL_law_1186 (by decide) ?_
                                                                        exact go_iret (pc := 1187) (Option.some.inj h).symm rfl dL_law_1187 rfl
                                                                    · replace h := (if_neg e458).symm.trans h
                                                                      by_cases e459 : ((xs0 v3.toNatClampNeg) &&& (63 : Int32)) = (32 : Int32)
                                                                      · replace h := (if_pos e459).symm.trans h
                                                                        refine go_tabIn (pc := 32) (off := 1156) (tgt := 1188) dL_law_32 (by rw [e459]; decide) (by rw [e459]; decide) (by rw [e459]; decide) (by decide) ?_
                                                                        refine go_aload_n (pc := 1188) dL_law_1188 rfl ?_
                                                                        refine go_aload_n (pc := 1189) dL_law_1189 rfl ?_
                                                                        refine go_iload_n (pc := 1190) dL_law_1190 rfl ?_
                                                                        refine go_iconst (pc := 1191) (v := (1 : Int32)) dL_law_1191 (by decide) ?_
                                                                        refine go_iadd (pc := 1192) dL_law_1192 ?_
                                                                        obtain ⟨i266, h⟩ := g_gd h
                                                                        refine go_xld (pc := 1193) (n := n0) (xs := xs0) hn0 hx0 (g_inb_ok i266) dL_law_1193 ?_
                                                                        obtain ⟨u267, c268, h⟩ := g_bd h
                                                                        refine go_callV (pc := 1194) (as := [.inl (xs0 (v3 + (1 : Int32)).toNatClampNeg)]) (st := []) (r := u267.1) (M1 := u267.2) (z_X8_spring hok  c268) cw_X8_spring ml_L_146 (show g_lay[0]? = some _ from rfl) rfl rfl (by decide) (Nat.le_of_ble_eq_true rfl) rfl dL_law_1194 ?_
                                                                        refine go_aload_n (pc := 1197) dL_law_1197 rfl ?_
                                                                        refine go_aload_n (pc := 1198) dL_law_1198 rfl ?_
                                                                        refine go_iload_n (pc := 1199) dL_law_1199 rfl ?_
                                                                        refine go_iconst (pc := 1200) (v := (1 : Int32)) dL_law_1200 (by decide) ?_
                                                                        refine go_iadd (pc := 1201) dL_law_1201 ?_
                                                                        obtain ⟨i269, h⟩ := g_gd h
                                                                        refine go_xld (pc := 1202) (n := n0) (xs := xs0) hn0 hx0 (g_inb_ok i269) dL_law_1202 ?_
                                                                        obtain ⟨u270, c271, h⟩ := g_bd h
                                                                        refine go_callV (pc := 1203) (as := [.inl (xs0 (v3 + (1 : Int32)).toNatClampNeg)]) (st := [.inl u267.1]) (r := u270.1) (M1 := u270.2) (z_X9_spring hok  c271) cw_X9_spring ml_L_149 (show g_lay[41]? = some _ from rfl) rfl rfl (by decide) (Nat.le_of_ble_eq_true rfl) rfl dL_law_1203 ?_
                                                                        refine go_icmp_eq (pc := 1206) (tgt := 1765) dL_law_1206 (by decide) (fun e272 => ?_) (fun e272 => ?_)
                                                                        · replace h := (if_pos e272).symm.trans h
                                                                          refine go_iinc (pc := 1765) (v := (5 : Int32)) (lv' := [some (.inr 5000), some (.inr 0), some (.inr 41), some (.inl (v3 + (5 : Int32)))]) dL_law_1765 rfl (by decide) (by decide) rfl ?_
                                                                          refine go_goto (pc := 1768) (tgt := 18) dL_law_1768 (by decide) ?_
                                                                          exact go_to (ih _ _ h) (And.intro rfl (And.intro rfl (And.intro rfl (And.intro rfl trivial))))
                                                                        · replace h := (if_neg e272).symm.trans h
                                                                          refine go_iconst (pc := 1209) (v := (0 : Int32)) dL_law_1209 (by decide) ?_
                                                                          exact go_iret (pc := 1210) (Option.some.inj h).symm rfl dL_law_1210 rfl
                                                                      · replace h := (if_neg e459).symm.trans h
                                                                        by_cases e460 : ((xs0 v3.toNatClampNeg) &&& (63 : Int32)) = (33 : Int32)
                                                                        · replace h := (if_pos e460).symm.trans h
                                                                          refine go_tabIn (pc := 32) (off := 1179) (tgt := 1211) dL_law_32 (by rw [e460]; decide) (by rw [e460]; decide) (by rw [e460]; decide) (by decide) ?_
                                                                          refine go_aload_n (pc := 1211) dL_law_1211 rfl ?_
                                                                          refine go_aload_n (pc := 1212) dL_law_1212 rfl ?_
                                                                          refine go_iload_n (pc := 1213) dL_law_1213 rfl ?_
                                                                          refine go_iconst (pc := 1214) (v := (1 : Int32)) dL_law_1214 (by decide) ?_
                                                                          refine go_iadd (pc := 1215) dL_law_1215 ?_
                                                                          obtain ⟨i273, h⟩ := g_gd h
                                                                          refine go_xld (pc := 1216) (n := n0) (xs := xs0) hn0 hx0 (g_inb_ok i273) dL_law_1216 ?_
                                                                          refine go_aload_n (pc := 1217) dL_law_1217 rfl ?_
                                                                          refine go_iload_n (pc := 1218) dL_law_1218 rfl ?_
                                                                          refine go_iconst (pc := 1219) (v := (2 : Int32)) dL_law_1219 (by decide) ?_
                                                                          refine go_iadd (pc := 1220) dL_law_1220 ?_
                                                                          obtain ⟨i274, h⟩ := g_gd h
                                                                          refine go_xld (pc := 1221) (n := n0) (xs := xs0) hn0 hx0 (g_inb_ok i274) dL_law_1221 ?_
                                                                          obtain ⟨u275, c276, h⟩ := g_bd h
                                                                          refine go_callV (pc := 1222) (as := [.inl (xs0 (v3 + (1 : Int32)).toNatClampNeg), .inl (xs0 (v3 + (2 : Int32)).toNatClampNeg)]) (st := []) (r := u275.1) (M1 := u275.2) (z_X8_swells hok  c276) cw_X8_swells ml_L_150 (show g_lay[0]? = some _ from rfl) rfl rfl (by decide) (Nat.le_of_ble_eq_true rfl) rfl dL_law_1222 ?_
                                                                          refine go_aload_n (pc := 1225) dL_law_1225 rfl ?_
                                                                          refine go_aload_n (pc := 1226) dL_law_1226 rfl ?_
                                                                          refine go_iload_n (pc := 1227) dL_law_1227 rfl ?_
                                                                          refine go_iconst (pc := 1228) (v := (1 : Int32)) dL_law_1228 (by decide) ?_
                                                                          refine go_iadd (pc := 1229) dL_law_1229 ?_
                                                                          obtain ⟨i277, h⟩ := g_gd h
                                                                          refine go_xld (pc := 1230) (n := n0) (xs := xs0) hn0 hx0 (g_inb_ok i277) dL_law_1230 ?_
                                                                          refine go_aload_n (pc := 1231) dL_law_1231 rfl ?_
                                                                          refine go_iload_n (pc := 1232) dL_law_1232 rfl ?_
                                                                          refine go_iconst (pc := 1233) (v := (2 : Int32)) dL_law_1233 (by decide) ?_
                                                                          refine go_iadd (pc := 1234) dL_law_1234 ?_
                                                                          obtain ⟨i278, h⟩ := g_gd h
                                                                          refine go_xld (pc := 1235) (n := n0) (xs := xs0) hn0 hx0 (g_inb_ok i278) dL_law_1235 ?_
                                                                          obtain ⟨u279, c280, h⟩ := g_bd h
                                                                          refine go_callV (pc := 1236) (as := [.inl (xs0 (v3 + (1 : Int32)).toNatClampNeg), .inl (xs0 (v3 + (2 : Int32)).toNatClampNeg)]) (st := [.inl u275.1]) (r := u279.1) (M1 := u279.2) (z_X9_swells hok  c280) cw_X9_swells ml_L_153 (show g_lay[41]? = some _ from rfl) rfl rfl (by decide) (Nat.le_of_ble_eq_true rfl) rfl dL_law_1236 ?_
                                                                          refine go_icmp_eq (pc := 1239) (tgt := 1765) dL_law_1239 (by decide) (fun e281 => ?_) (fun e281 => ?_)
                                                                          · replace h := (if_pos e281).symm.trans h
                                                                            refine go_iinc (pc := 1765) (v := (5 : Int32)) (lv' := [some (.inr 5000), some (.inr 0), some (.inr 41), some (.inl (v3 + (5 : Int32)))]) dL_law_1765 rfl (by decide) (by decide) rfl ?_
                                                                            refine go_goto (pc := 1768) (tgt := 18) dL_law_1768 (by decide) ?_
                                                                            exact go_to (ih _ _ h) (And.intro rfl (And.intro rfl (And.intro rfl (And.intro rfl trivial))))
                                                                          · replace h := (if_neg e281).symm.trans h
                                                                            refine go_iconst (pc := 1242) (v := (0 : Int32)) dL_law_1242 (by decide) ?_
                                                                            exact go_iret (pc := 1243) (Option.some.inj h).symm rfl dL_law_1243 rfl
                                                                        · replace h := (if_neg e460).symm.trans h
                                                                          by_cases e461 : ((xs0 v3.toNatClampNeg) &&& (63 : Int32)) = (34 : Int32)
                                                                          · replace h := (if_pos e461).symm.trans h
                                                                            refine go_tabIn (pc := 32) (off := 1212) (tgt := 1244) dL_law_32 (by rw [e461]; decide) (by rw [e461]; decide) (by rw [e461]; decide) (by decide) ?_
                                                                            refine go_aload_n (pc := 1244) dL_law_1244 rfl ?_
                                                                            refine go_aload_n (pc := 1245) dL_law_1245 rfl ?_
                                                                            refine go_iload_n (pc := 1246) dL_law_1246 rfl ?_
                                                                            refine go_iconst (pc := 1247) (v := (1 : Int32)) dL_law_1247 (by decide) ?_
                                                                            refine go_iadd (pc := 1248) dL_law_1248 ?_
                                                                            obtain ⟨i282, h⟩ := g_gd h
                                                                            refine go_xld (pc := 1249) (n := n0) (xs := xs0) hn0 hx0 (g_inb_ok i282) dL_law_1249 ?_
                                                                            refine go_aload_n (pc := 1250) dL_law_1250 rfl ?_
                                                                            refine go_iload_n (pc := 1251) dL_law_1251 rfl ?_
                                                                            refine go_iconst (pc := 1252) (v := (2 : Int32)) dL_law_1252 (by decide) ?_
                                                                            refine go_iadd (pc := 1253) dL_law_1253 ?_
                                                                            obtain ⟨i283, h⟩ := g_gd h
                                                                            refine go_xld (pc := 1254) (n := n0) (xs := xs0) hn0 hx0 (g_inb_ok i283) dL_law_1254 ?_
                                                                            obtain ⟨u284, c285, h⟩ := g_bd h
                                                                            refine go_callV (pc := 1255) (as := [.inl (xs0 (v3 + (1 : Int32)).toNatClampNeg), .inl (xs0 (v3 + (2 : Int32)).toNatClampNeg)]) (st := []) (r := u284.1) (M1 := u284.2) (z_X8_fortnight hok  c285) cw_X8_fortnight ml_L_154 (show g_lay[0]? = some _ from rfl) rfl rfl (by decide) (Nat.le_of_ble_eq_true rfl) rfl dL_law_1255 ?_
                                                                            refine go_aload_n (pc := 1258) dL_law_1258 rfl ?_
                                                                            refine go_aload_n (pc := 1259) dL_law_1259 rfl ?_
                                                                            refine go_iload_n (pc := 1260) dL_law_1260 rfl ?_
                                                                            refine go_iconst (pc := 1261) (v := (1 : Int32)) dL_law_1261 (by decide) ?_
                                                                            refine go_iadd (pc := 1262) dL_law_1262 ?_
                                                                            obtain ⟨i286, h⟩ := g_gd h
                                                                            refine go_xld (pc := 1263) (n := n0) (xs := xs0) hn0 hx0 (g_inb_ok i286) dL_law_1263 ?_
                                                                            refine go_aload_n (pc := 1264) dL_law_1264 rfl ?_
                                                                            refine go_iload_n (pc := 1265) dL_law_1265 rfl ?_
                                                                            refine go_iconst (pc := 1266) (v := (2 : Int32)) dL_law_1266 (by decide) ?_
                                                                            refine go_iadd (pc := 1267) dL_law_1267 ?_
                                                                            obtain ⟨i287, h⟩ := g_gd h
                                                                            refine go_xld (pc := 1268) (n := n0) (xs := xs0) hn0 hx0 (g_inb_ok i287) dL_law_1268 ?_
                                                                            obtain ⟨u288, c289, h⟩ := g_bd h
                                                                            refine go_callV (pc := 1269) (as := [.inl (xs0 (v3 + (1 : Int32)).toNatClampNeg), .inl (xs0 (v3 + (2 : Int32)).toNatClampNeg)]) (st := [.inl u284.1]) (r := u288.1) (M1 := u288.2) (z_X9_fortnight hok  c289) cw_X9_fortnight ml_L_157 (show g_lay[41]? = some _ from rfl) rfl rfl (by decide) (Nat.le_of_ble_eq_true rfl) rfl dL_law_1269 ?_
                                                                            refine go_icmp_eq (pc := 1272) (tgt := 1765) dL_law_1272 (by decide) (fun e290 => ?_) (fun e290 => ?_)
                                                                            · replace h := (if_pos e290).symm.trans h
                                                                              refine go_iinc (pc := 1765) (v := (5 : Int32)) (lv' := [some (.inr 5000), some (.inr 0), some (.inr 41), some (.inl (v3 + (5 : Int32)))]) dL_law_1765 rfl (by decide) (by decide) rfl ?_
                                                                              refine go_goto (pc := 1768) (tgt := 18) dL_law_1768 (by decide) ?_
                                                                              exact go_to (ih _ _ h) (And.intro rfl (And.intro rfl (And.intro rfl (And.intro rfl trivial))))
                                                                            · replace h := (if_neg e290).symm.trans h
                                                                              refine go_iconst (pc := 1275) (v := (0 : Int32)) dL_law_1275 (by decide) ?_
                                                                              exact go_iret (pc := 1276) (Option.some.inj h).symm rfl dL_law_1276 rfl
                                                                          · replace h := (if_neg e461).symm.trans h
                                                                            by_cases e462 : ((xs0 v3.toNatClampNeg) &&& (63 : Int32)) = (35 : Int32)
                                                                            · replace h := (if_pos e462).symm.trans h
                                                                              refine go_tabIn (pc := 32) (off := 1245) (tgt := 1277) dL_law_32 (by rw [e462]; decide) (by rw [e462]; decide) (by rw [e462]; decide) (by decide) ?_
                                                                              refine go_aload_n (pc := 1277) dL_law_1277 rfl ?_
                                                                              refine go_aload_n (pc := 1278) dL_law_1278 rfl ?_
                                                                              refine go_iload_n (pc := 1279) dL_law_1279 rfl ?_
                                                                              refine go_iconst (pc := 1280) (v := (1 : Int32)) dL_law_1280 (by decide) ?_
                                                                              refine go_iadd (pc := 1281) dL_law_1281 ?_
                                                                              obtain ⟨i291, h⟩ := g_gd h
                                                                              refine go_xld (pc := 1282) (n := n0) (xs := xs0) hn0 hx0 (g_inb_ok i291) dL_law_1282 ?_
                                                                              refine go_aload_n (pc := 1283) dL_law_1283 rfl ?_
                                                                              refine go_iload_n (pc := 1284) dL_law_1284 rfl ?_
                                                                              refine go_iconst (pc := 1285) (v := (2 : Int32)) dL_law_1285 (by decide) ?_
                                                                              refine go_iadd (pc := 1286) dL_law_1286 ?_
                                                                              obtain ⟨i292, h⟩ := g_gd h
                                                                              refine go_xld (pc := 1287) (n := n0) (xs := xs0) hn0 hx0 (g_inb_ok i292) dL_law_1287 ?_
                                                                              obtain ⟨u293, c294, h⟩ := g_bd h
                                                                              refine go_callV (pc := 1288) (as := [.inl (xs0 (v3 + (1 : Int32)).toNatClampNeg), .inl (xs0 (v3 + (2 : Int32)).toNatClampNeg)]) (st := []) (r := u293.1) (M1 := u293.2) (z_X8_watch hok  c294) cw_X8_watch ml_L_158 (show g_lay[0]? = some _ from rfl) rfl rfl (by decide) (Nat.le_of_ble_eq_true rfl) rfl dL_law_1288 ?_
                                                                              refine go_aload_n (pc := 1291) dL_law_1291 rfl ?_
                                                                              refine go_aload_n (pc := 1292) dL_law_1292 rfl ?_
                                                                              refine go_iload_n (pc := 1293) dL_law_1293 rfl ?_
                                                                              refine go_iconst (pc := 1294) (v := (1 : Int32)) dL_law_1294 (by decide) ?_
                                                                              refine go_iadd (pc := 1295) dL_law_1295 ?_
                                                                              obtain ⟨i295, h⟩ := g_gd h
                                                                              refine go_xld (pc := 1296) (n := n0) (xs := xs0) hn0 hx0 (g_inb_ok i295) dL_law_1296 ?_
                                                                              refine go_aload_n (pc := 1297) dL_law_1297 rfl ?_
                                                                              refine go_iload_n (pc := 1298) dL_law_1298 rfl ?_
                                                                              refine go_iconst (pc := 1299) (v := (2 : Int32)) dL_law_1299 (by decide) ?_
                                                                              refine go_iadd (pc := 1300) dL_law_1300 ?_
                                                                              obtain ⟨i296, h⟩ := g_gd h
                                                                              refine go_xld (pc := 1301) (n := n0) (xs := xs0) hn0 hx0 (g_inb_ok i296) dL_law_1301 ?_
                                                                              obtain ⟨u297, c298, h⟩ := g_bd h
                                                                              refine go_callV (pc := 1302) (as := [.inl (xs0 (v3 + (1 : Int32)).toNatClampNeg), .inl (xs0 (v3 + (2 : Int32)).toNatClampNeg)]) (st := [.inl u293.1]) (r := u297.1) (M1 := u297.2) (z_X9_watch hok  c298) cw_X9_watch ml_L_161 (show g_lay[41]? = some _ from rfl) rfl rfl (by decide) (Nat.le_of_ble_eq_true rfl) rfl dL_law_1302 ?_
                                                                              refine go_icmp_eq (pc := 1305) (tgt := 1765) dL_law_1305 (by decide) (fun e299 => ?_) (fun e299 => ?_)
                                                                              · replace h := (if_pos e299).symm.trans h
                                                                                refine go_iinc (pc := 1765) (v := (5 : Int32)) (lv' := [some (.inr 5000), some (.inr 0), some (.inr 41), some (.inl (v3 + (5 : Int32)))]) dL_law_1765 rfl (by decide) (by decide) rfl ?_
                                                                                refine go_goto (pc := 1768) (tgt := 18) dL_law_1768 (by decide) ?_
                                                                                exact go_to (ih _ _ h) (And.intro rfl (And.intro rfl (And.intro rfl (And.intro rfl trivial))))
                                                                              · replace h := (if_neg e299).symm.trans h
                                                                                refine go_iconst (pc := 1308) (v := (0 : Int32)) dL_law_1308 (by decide) ?_
                                                                                exact go_iret (pc := 1309) (Option.some.inj h).symm rfl dL_law_1309 rfl
                                                                            · replace h := (if_neg e462).symm.trans h
                                                                              by_cases e463 : ((xs0 v3.toNatClampNeg) &&& (63 : Int32)) = (36 : Int32)
                                                                              · replace h := (if_pos e463).symm.trans h
                                                                                refine go_tabIn (pc := 32) (off := 1278) (tgt := 1310) dL_law_32 (by rw [e463]; decide) (by rw [e463]; decide) (by rw [e463]; decide) (by decide) ?_
                                                                                refine go_aload_n (pc := 1310) dL_law_1310 rfl ?_
                                                                                refine go_aload_n (pc := 1311) dL_law_1311 rfl ?_
                                                                                refine go_iload_n (pc := 1312) dL_law_1312 rfl ?_
                                                                                refine go_iconst (pc := 1313) (v := (1 : Int32)) dL_law_1313 (by decide) ?_
                                                                                refine go_iadd (pc := 1314) dL_law_1314 ?_
                                                                                obtain ⟨i300, h⟩ := g_gd h
                                                                                refine go_xld (pc := 1315) (n := n0) (xs := xs0) hn0 hx0 (g_inb_ok i300) dL_law_1315 ?_
                                                                                obtain ⟨u301, c302, h⟩ := g_bd h
                                                                                refine go_callV (pc := 1316) (as := [.inl (xs0 (v3 + (1 : Int32)).toNatClampNeg)]) (st := []) (r := u301.1) (M1 := u301.2) (z_X8_seldom hok  c302) cw_X8_seldom ml_L_162 (show g_lay[0]? = some _ from rfl) rfl rfl (by decide) (Nat.le_of_ble_eq_true rfl) rfl dL_law_1316 ?_
                                                                                refine go_aload_n (pc := 1319) dL_law_1319 rfl ?_
                                                                                refine go_aload_n (pc := 1320) dL_law_1320 rfl ?_
                                                                                refine go_iload_n (pc := 1321) dL_law_1321 rfl ?_
                                                                                refine go_iconst (pc := 1322) (v := (1 : Int32)) dL_law_1322 (by decide) ?_
                                                                                refine go_iadd (pc := 1323) dL_law_1323 ?_
                                                                                obtain ⟨i303, h⟩ := g_gd h
                                                                                refine go_xld (pc := 1324) (n := n0) (xs := xs0) hn0 hx0 (g_inb_ok i303) dL_law_1324 ?_
                                                                                obtain ⟨u304, c305, h⟩ := g_bd h
                                                                                refine go_callV (pc := 1325) (as := [.inl (xs0 (v3 + (1 : Int32)).toNatClampNeg)]) (st := [.inl u301.1]) (r := u304.1) (M1 := u304.2) (z_X9_seldom hok  c305) cw_X9_seldom ml_L_165 (show g_lay[41]? = some _ from rfl) rfl rfl (by decide) (Nat.le_of_ble_eq_true rfl) rfl dL_law_1325 ?_
                                                                                refine go_icmp_eq (pc := 1328) (tgt := 1765) dL_law_1328 (by decide) (fun e306 => ?_) (fun e306 => ?_)
                                                                                · replace h := (if_pos e306).symm.trans h
                                                                                  refine go_iinc (pc := 1765) (v := (5 : Int32)) (lv' := [some (.inr 5000), some (.inr 0), some (.inr 41), some (.inl (v3 + (5 : Int32)))]) dL_law_1765 rfl (by decide) (by decide) rfl ?_
                                                                                  refine go_goto (pc := 1768) (tgt := 18) dL_law_1768 (by decide) ?_
                                                                                  exact go_to (ih _ _ h) (And.intro rfl (And.intro rfl (And.intro rfl (And.intro rfl trivial))))
                                                                                · replace h := (if_neg e306).symm.trans h
                                                                                  refine go_iconst (pc := 1331) (v := (0 : Int32)) dL_law_1331 (by decide) ?_
                                                                                  exact go_iret (pc := 1332) (Option.some.inj h).symm rfl dL_law_1332 rfl
                                                                              · replace h := (if_neg e463).symm.trans h
                                                                                by_cases e464 : ((xs0 v3.toNatClampNeg) &&& (63 : Int32)) = (37 : Int32)
                                                                                · replace h := (if_pos e464).symm.trans h
                                                                                  refine go_tabIn (pc := 32) (off := 1301) (tgt := 1333) dL_law_32 (by rw [e464]; decide) (by rw [e464]; decide) (by rw [e464]; decide) (by decide) ?_
                                                                                  refine go_aload_n (pc := 1333) dL_law_1333 rfl ?_
                                                                                  refine go_aload_n (pc := 1334) dL_law_1334 rfl ?_
                                                                                  refine go_iload_n (pc := 1335) dL_law_1335 rfl ?_
                                                                                  refine go_iconst (pc := 1336) (v := (1 : Int32)) dL_law_1336 (by decide) ?_
                                                                                  refine go_iadd (pc := 1337) dL_law_1337 ?_
                                                                                  obtain ⟨i307, h⟩ := g_gd h
                                                                                  refine go_xld (pc := 1338) (n := n0) (xs := xs0) hn0 hx0 (g_inb_ok i307) dL_law_1338 ?_
                                                                                  refine go_aload_n (pc := 1339) dL_law_1339 rfl ?_
                                                                                  refine go_iload_n (pc := 1340) dL_law_1340 rfl ?_
                                                                                  refine go_iconst (pc := 1341) (v := (2 : Int32)) dL_law_1341 (by decide) ?_
                                                                                  refine go_iadd (pc := 1342) dL_law_1342 ?_
                                                                                  obtain ⟨i308, h⟩ := g_gd h
                                                                                  refine go_xld (pc := 1343) (n := n0) (xs := xs0) hn0 hx0 (g_inb_ok i308) dL_law_1343 ?_
                                                                                  obtain ⟨u309, c310, h⟩ := g_bd h
                                                                                  refine go_callV (pc := 1344) (as := [.inl (xs0 (v3 + (1 : Int32)).toNatClampNeg), .inl (xs0 (v3 + (2 : Int32)).toNatClampNeg)]) (st := []) (r := u309.1) (M1 := u309.2) (z_X8_wake hok  c310) cw_X8_wake ml_L_166 (show g_lay[0]? = some _ from rfl) rfl rfl (by decide) (Nat.le_of_ble_eq_true rfl) rfl dL_law_1344 ?_
                                                                                  refine go_aload_n (pc := 1347) dL_law_1347 rfl ?_
                                                                                  refine go_aload_n (pc := 1348) dL_law_1348 rfl ?_
                                                                                  refine go_iload_n (pc := 1349) dL_law_1349 rfl ?_
                                                                                  refine go_iconst (pc := 1350) (v := (1 : Int32)) dL_law_1350 (by decide) ?_
                                                                                  refine go_iadd (pc := 1351) dL_law_1351 ?_
                                                                                  obtain ⟨i311, h⟩ := g_gd h
                                                                                  refine go_xld (pc := 1352) (n := n0) (xs := xs0) hn0 hx0 (g_inb_ok i311) dL_law_1352 ?_
                                                                                  refine go_aload_n (pc := 1353) dL_law_1353 rfl ?_
                                                                                  refine go_iload_n (pc := 1354) dL_law_1354 rfl ?_
                                                                                  refine go_iconst (pc := 1355) (v := (2 : Int32)) dL_law_1355 (by decide) ?_
                                                                                  refine go_iadd (pc := 1356) dL_law_1356 ?_
                                                                                  obtain ⟨i312, h⟩ := g_gd h
                                                                                  refine go_xld (pc := 1357) (n := n0) (xs := xs0) hn0 hx0 (g_inb_ok i312) dL_law_1357 ?_
                                                                                  obtain ⟨u313, c314, h⟩ := g_bd h
                                                                                  refine go_callV (pc := 1358) (as := [.inl (xs0 (v3 + (1 : Int32)).toNatClampNeg), .inl (xs0 (v3 + (2 : Int32)).toNatClampNeg)]) (st := [.inl u309.1]) (r := u313.1) (M1 := u313.2) (z_X9_wake hok  c314) cw_X9_wake ml_L_169 (show g_lay[41]? = some _ from rfl) rfl rfl (by decide) (Nat.le_of_ble_eq_true rfl) rfl dL_law_1358 ?_
                                                                                  refine go_icmp_eq (pc := 1361) (tgt := 1765) dL_law_1361 (by decide) (fun e315 => ?_) (fun e315 => ?_)
                                                                                  · replace h := (if_pos e315).symm.trans h
                                                                                    refine go_iinc (pc := 1765) (v := (5 : Int32)) (lv' := [some (.inr 5000), some (.inr 0), some (.inr 41), some (.inl (v3 + (5 : Int32)))]) dL_law_1765 rfl (by decide) (by decide) rfl ?_
                                                                                    refine go_goto (pc := 1768) (tgt := 18) dL_law_1768 (by decide) ?_
                                                                                    exact go_to (ih _ _ h) (And.intro rfl (And.intro rfl (And.intro rfl (And.intro rfl trivial))))
                                                                                  · replace h := (if_neg e315).symm.trans h
                                                                                    refine go_iconst (pc := 1364) (v := (0 : Int32)) dL_law_1364 (by decide) ?_
                                                                                    exact go_iret (pc := 1365) (Option.some.inj h).symm rfl dL_law_1365 rfl
                                                                                · replace h := (if_neg e464).symm.trans h
                                                                                  by_cases e465 : ((xs0 v3.toNatClampNeg) &&& (63 : Int32)) = (38 : Int32)
                                                                                  · replace h := (if_pos e465).symm.trans h
                                                                                    refine go_tabIn (pc := 32) (off := 1334) (tgt := 1366) dL_law_32 (by rw [e465]; decide) (by rw [e465]; decide) (by rw [e465]; decide) (by decide) ?_
                                                                                    refine go_aload_n (pc := 1366) dL_law_1366 rfl ?_
                                                                                    refine go_aload_n (pc := 1367) dL_law_1367 rfl ?_
                                                                                    refine go_iload_n (pc := 1368) dL_law_1368 rfl ?_
                                                                                    refine go_iconst (pc := 1369) (v := (1 : Int32)) dL_law_1369 (by decide) ?_
                                                                                    refine go_iadd (pc := 1370) dL_law_1370 ?_
                                                                                    obtain ⟨i316, h⟩ := g_gd h
                                                                                    refine go_xld (pc := 1371) (n := n0) (xs := xs0) hn0 hx0 (g_inb_ok i316) dL_law_1371 ?_
                                                                                    refine go_aload_n (pc := 1372) dL_law_1372 rfl ?_
                                                                                    refine go_iload_n (pc := 1373) dL_law_1373 rfl ?_
                                                                                    refine go_iconst (pc := 1374) (v := (2 : Int32)) dL_law_1374 (by decide) ?_
                                                                                    refine go_iadd (pc := 1375) dL_law_1375 ?_
                                                                                    obtain ⟨i317, h⟩ := g_gd h
                                                                                    refine go_xld (pc := 1376) (n := n0) (xs := xs0) hn0 hx0 (g_inb_ok i317) dL_law_1376 ?_
                                                                                    obtain ⟨u318, c319, h⟩ := g_bd h
                                                                                    refine go_callV (pc := 1377) (as := [.inl (xs0 (v3 + (1 : Int32)).toNatClampNeg), .inl (xs0 (v3 + (2 : Int32)).toNatClampNeg)]) (st := []) (r := u318.1) (M1 := u318.2) (z_X8_ramp hok  c319) cw_X8_ramp ml_L_170 (show g_lay[0]? = some _ from rfl) rfl rfl (by decide) (Nat.le_of_ble_eq_true rfl) rfl dL_law_1377 ?_
                                                                                    refine go_aload_n (pc := 1380) dL_law_1380 rfl ?_
                                                                                    refine go_aload_n (pc := 1381) dL_law_1381 rfl ?_
                                                                                    refine go_iload_n (pc := 1382) dL_law_1382 rfl ?_
                                                                                    refine go_iconst (pc := 1383) (v := (1 : Int32)) dL_law_1383 (by decide) ?_
                                                                                    refine go_iadd (pc := 1384) dL_law_1384 ?_
                                                                                    obtain ⟨i320, h⟩ := g_gd h
                                                                                    refine go_xld (pc := 1385) (n := n0) (xs := xs0) hn0 hx0 (g_inb_ok i320) dL_law_1385 ?_
                                                                                    refine go_aload_n (pc := 1386) dL_law_1386 rfl ?_
                                                                                    refine go_iload_n (pc := 1387) dL_law_1387 rfl ?_
                                                                                    refine go_iconst (pc := 1388) (v := (2 : Int32)) dL_law_1388 (by decide) ?_
                                                                                    refine go_iadd (pc := 1389) dL_law_1389 ?_
                                                                                    obtain ⟨i321, h⟩ := g_gd h
                                                                                    refine go_xld (pc := 1390) (n := n0) (xs := xs0) hn0 hx0 (g_inb_ok i321) dL_law_1390 ?_
                                                                                    obtain ⟨u322, c323, h⟩ := g_bd h
                                                                                    refine go_callV (pc := 1391) (as := [.inl (xs0 (v3 + (1 : Int32)).toNatClampNeg), .inl (xs0 (v3 + (2 : Int32)).toNatClampNeg)]) (st := [.inl u318.1]) (r := u322.1) (M1 := u322.2) (z_X9_ramp hok  c323) cw_X9_ramp ml_L_173 (show g_lay[41]? = some _ from rfl) rfl rfl (by decide) (Nat.le_of_ble_eq_true rfl) rfl dL_law_1391 ?_
                                                                                    refine go_icmp_eq (pc := 1394) (tgt := 1765) dL_law_1394 (by decide) (fun e324 => ?_) (fun e324 => ?_)
                                                                                    · replace h := (if_pos e324).symm.trans h
                                                                                      refine go_iinc (pc := 1765) (v := (5 : Int32)) (lv' := [some (.inr 5000), some (.inr 0), some (.inr 41), some (.inl (v3 + (5 : Int32)))]) dL_law_1765 rfl (by decide) (by decide) rfl ?_
                                                                                      refine go_goto (pc := 1768) (tgt := 18) dL_law_1768 (by decide) ?_
                                                                                      exact go_to (ih _ _ h) (And.intro rfl (And.intro rfl (And.intro rfl (And.intro rfl trivial))))
                                                                                    · replace h := (if_neg e324).symm.trans h
                                                                                      refine go_iconst (pc := 1397) (v := (0 : Int32)) dL_law_1397 (by decide) ?_
                                                                                      exact go_iret (pc := 1398) (Option.some.inj h).symm rfl dL_law_1398 rfl
                                                                                  · replace h := (if_neg e465).symm.trans h
                                                                                    by_cases e466 : ((xs0 v3.toNatClampNeg) &&& (63 : Int32)) = (39 : Int32)
                                                                                    · replace h := (if_pos e466).symm.trans h
                                                                                      refine go_tabIn (pc := 32) (off := 1367) (tgt := 1399) dL_law_32 (by rw [e466]; decide) (by rw [e466]; decide) (by rw [e466]; decide) (by decide) ?_
                                                                                      refine go_aload_n (pc := 1399) dL_law_1399 rfl ?_
                                                                                      refine go_aload_n (pc := 1400) dL_law_1400 rfl ?_
                                                                                      refine go_iload_n (pc := 1401) dL_law_1401 rfl ?_
                                                                                      refine go_iconst (pc := 1402) (v := (1 : Int32)) dL_law_1402 (by decide) ?_
                                                                                      refine go_iadd (pc := 1403) dL_law_1403 ?_
                                                                                      obtain ⟨i325, h⟩ := g_gd h
                                                                                      refine go_xld (pc := 1404) (n := n0) (xs := xs0) hn0 hx0 (g_inb_ok i325) dL_law_1404 ?_
                                                                                      refine go_aload_n (pc := 1405) dL_law_1405 rfl ?_
                                                                                      refine go_iload_n (pc := 1406) dL_law_1406 rfl ?_
                                                                                      refine go_iconst (pc := 1407) (v := (2 : Int32)) dL_law_1407 (by decide) ?_
                                                                                      refine go_iadd (pc := 1408) dL_law_1408 ?_
                                                                                      obtain ⟨i326, h⟩ := g_gd h
                                                                                      refine go_xld (pc := 1409) (n := n0) (xs := xs0) hn0 hx0 (g_inb_ok i326) dL_law_1409 ?_
                                                                                      obtain ⟨u327, c328, h⟩ := g_bd h
                                                                                      refine go_callV (pc := 1410) (as := [.inl (xs0 (v3 + (1 : Int32)).toNatClampNeg), .inl (xs0 (v3 + (2 : Int32)).toNatClampNeg)]) (st := []) (r := u327.1) (M1 := u327.2) (z_X8_slope hok  c328) cw_X8_slope ml_L_174 (show g_lay[0]? = some _ from rfl) rfl rfl (by decide) (Nat.le_of_ble_eq_true rfl) rfl dL_law_1410 ?_
                                                                                      refine go_aload_n (pc := 1413) dL_law_1413 rfl ?_
                                                                                      refine go_aload_n (pc := 1414) dL_law_1414 rfl ?_
                                                                                      refine go_iload_n (pc := 1415) dL_law_1415 rfl ?_
                                                                                      refine go_iconst (pc := 1416) (v := (1 : Int32)) dL_law_1416 (by decide) ?_
                                                                                      refine go_iadd (pc := 1417) dL_law_1417 ?_
                                                                                      obtain ⟨i329, h⟩ := g_gd h
                                                                                      refine go_xld (pc := 1418) (n := n0) (xs := xs0) hn0 hx0 (g_inb_ok i329) dL_law_1418 ?_
                                                                                      refine go_aload_n (pc := 1419) dL_law_1419 rfl ?_
                                                                                      refine go_iload_n (pc := 1420) dL_law_1420 rfl ?_
                                                                                      refine go_iconst (pc := 1421) (v := (2 : Int32)) dL_law_1421 (by decide) ?_
                                                                                      refine go_iadd (pc := 1422) dL_law_1422 ?_
                                                                                      obtain ⟨i330, h⟩ := g_gd h
                                                                                      refine go_xld (pc := 1423) (n := n0) (xs := xs0) hn0 hx0 (g_inb_ok i330) dL_law_1423 ?_
                                                                                      obtain ⟨u331, c332, h⟩ := g_bd h
                                                                                      refine go_callV (pc := 1424) (as := [.inl (xs0 (v3 + (1 : Int32)).toNatClampNeg), .inl (xs0 (v3 + (2 : Int32)).toNatClampNeg)]) (st := [.inl u327.1]) (r := u331.1) (M1 := u331.2) (z_X9_slope hok  c332) cw_X9_slope ml_L_177 (show g_lay[41]? = some _ from rfl) rfl rfl (by decide) (Nat.le_of_ble_eq_true rfl) rfl dL_law_1424 ?_
                                                                                      refine go_icmp_eq (pc := 1427) (tgt := 1765) dL_law_1427 (by decide) (fun e333 => ?_) (fun e333 => ?_)
                                                                                      · replace h := (if_pos e333).symm.trans h
                                                                                        refine go_iinc (pc := 1765) (v := (5 : Int32)) (lv' := [some (.inr 5000), some (.inr 0), some (.inr 41), some (.inl (v3 + (5 : Int32)))]) dL_law_1765 rfl (by decide) (by decide) rfl ?_
                                                                                        refine go_goto (pc := 1768) (tgt := 18) dL_law_1768 (by decide) ?_
                                                                                        exact go_to (ih _ _ h) (And.intro rfl (And.intro rfl (And.intro rfl (And.intro rfl trivial))))
                                                                                      · replace h := (if_neg e333).symm.trans h
                                                                                        refine go_iconst (pc := 1430) (v := (0 : Int32)) dL_law_1430 (by decide) ?_
                                                                                        exact go_iret (pc := 1431) (Option.some.inj h).symm rfl dL_law_1431 rfl
                                                                                    · replace h := (if_neg e466).symm.trans h
                                                                                      by_cases e467 : ((xs0 v3.toNatClampNeg) &&& (63 : Int32)) = (40 : Int32)
                                                                                      · replace h := (if_pos e467).symm.trans h
                                                                                        refine go_tabIn (pc := 32) (off := 1400) (tgt := 1432) dL_law_32 (by rw [e467]; decide) (by rw [e467]; decide) (by rw [e467]; decide) (by decide) ?_
                                                                                        refine go_aload_n (pc := 1432) dL_law_1432 rfl ?_
                                                                                        refine go_aload_n (pc := 1433) dL_law_1433 rfl ?_
                                                                                        refine go_iload_n (pc := 1434) dL_law_1434 rfl ?_
                                                                                        refine go_iconst (pc := 1435) (v := (1 : Int32)) dL_law_1435 (by decide) ?_
                                                                                        refine go_iadd (pc := 1436) dL_law_1436 ?_
                                                                                        obtain ⟨i334, h⟩ := g_gd h
                                                                                        refine go_xld (pc := 1437) (n := n0) (xs := xs0) hn0 hx0 (g_inb_ok i334) dL_law_1437 ?_
                                                                                        refine go_aload_n (pc := 1438) dL_law_1438 rfl ?_
                                                                                        refine go_iload_n (pc := 1439) dL_law_1439 rfl ?_
                                                                                        refine go_iconst (pc := 1440) (v := (2 : Int32)) dL_law_1440 (by decide) ?_
                                                                                        refine go_iadd (pc := 1441) dL_law_1441 ?_
                                                                                        obtain ⟨i335, h⟩ := g_gd h
                                                                                        refine go_xld (pc := 1442) (n := n0) (xs := xs0) hn0 hx0 (g_inb_ok i335) dL_law_1442 ?_
                                                                                        obtain ⟨u336, c337, h⟩ := g_bd h
                                                                                        refine go_callV (pc := 1443) (as := [.inl (xs0 (v3 + (1 : Int32)).toNatClampNeg), .inl (xs0 (v3 + (2 : Int32)).toNatClampNeg)]) (st := []) (r := u336.1) (M1 := u336.2) (z_X8_open hok  c337) cw_X8_open ml_L_178 (show g_lay[0]? = some _ from rfl) rfl rfl (by decide) (Nat.le_of_ble_eq_true rfl) rfl dL_law_1443 ?_
                                                                                        refine go_aload_n (pc := 1446) dL_law_1446 rfl ?_
                                                                                        refine go_aload_n (pc := 1447) dL_law_1447 rfl ?_
                                                                                        refine go_iload_n (pc := 1448) dL_law_1448 rfl ?_
                                                                                        refine go_iconst (pc := 1449) (v := (1 : Int32)) dL_law_1449 (by decide) ?_
                                                                                        refine go_iadd (pc := 1450) dL_law_1450 ?_
                                                                                        obtain ⟨i338, h⟩ := g_gd h
                                                                                        refine go_xld (pc := 1451) (n := n0) (xs := xs0) hn0 hx0 (g_inb_ok i338) dL_law_1451 ?_
                                                                                        refine go_aload_n (pc := 1452) dL_law_1452 rfl ?_
                                                                                        refine go_iload_n (pc := 1453) dL_law_1453 rfl ?_
                                                                                        refine go_iconst (pc := 1454) (v := (2 : Int32)) dL_law_1454 (by decide) ?_
                                                                                        refine go_iadd (pc := 1455) dL_law_1455 ?_
                                                                                        obtain ⟨i339, h⟩ := g_gd h
                                                                                        refine go_xld (pc := 1456) (n := n0) (xs := xs0) hn0 hx0 (g_inb_ok i339) dL_law_1456 ?_
                                                                                        obtain ⟨u340, c341, h⟩ := g_bd h
                                                                                        refine go_callV (pc := 1457) (as := [.inl (xs0 (v3 + (1 : Int32)).toNatClampNeg), .inl (xs0 (v3 + (2 : Int32)).toNatClampNeg)]) (st := [.inl u336.1]) (r := u340.1) (M1 := u340.2) (z_X9_open hok  c341) cw_X9_open ml_L_181 (show g_lay[41]? = some _ from rfl) rfl rfl (by decide) (Nat.le_of_ble_eq_true rfl) rfl dL_law_1457 ?_
                                                                                        refine go_icmp_eq (pc := 1460) (tgt := 1765) dL_law_1460 (by decide) (fun e342 => ?_) (fun e342 => ?_)
                                                                                        · replace h := (if_pos e342).symm.trans h
                                                                                          refine go_iinc (pc := 1765) (v := (5 : Int32)) (lv' := [some (.inr 5000), some (.inr 0), some (.inr 41), some (.inl (v3 + (5 : Int32)))]) dL_law_1765 rfl (by decide) (by decide) rfl ?_
                                                                                          refine go_goto (pc := 1768) (tgt := 18) dL_law_1768 (by decide) ?_
                                                                                          exact go_to (ih _ _ h) (And.intro rfl (And.intro rfl (And.intro rfl (And.intro rfl trivial))))
                                                                                        · replace h := (if_neg e342).symm.trans h
                                                                                          refine go_iconst (pc := 1463) (v := (0 : Int32)) dL_law_1463 (by decide) ?_
                                                                                          exact go_iret (pc := 1464) (Option.some.inj h).symm rfl dL_law_1464 rfl
                                                                                      · replace h := (if_neg e467).symm.trans h
                                                                                        by_cases e468 : ((xs0 v3.toNatClampNeg) &&& (63 : Int32)) = (41 : Int32)
                                                                                        · replace h := (if_pos e468).symm.trans h
                                                                                          refine go_tabIn (pc := 32) (off := 1433) (tgt := 1465) dL_law_32 (by rw [e468]; decide) (by rw [e468]; decide) (by rw [e468]; decide) (by decide) ?_
                                                                                          refine go_aload_n (pc := 1465) dL_law_1465 rfl ?_
                                                                                          refine go_aload_n (pc := 1466) dL_law_1466 rfl ?_
                                                                                          refine go_iload_n (pc := 1467) dL_law_1467 rfl ?_
                                                                                          refine go_iconst (pc := 1468) (v := (1 : Int32)) dL_law_1468 (by decide) ?_
                                                                                          refine go_iadd (pc := 1469) dL_law_1469 ?_
                                                                                          obtain ⟨i343, h⟩ := g_gd h
                                                                                          refine go_xld (pc := 1470) (n := n0) (xs := xs0) hn0 hx0 (g_inb_ok i343) dL_law_1470 ?_
                                                                                          refine go_aload_n (pc := 1471) dL_law_1471 rfl ?_
                                                                                          refine go_iload_n (pc := 1472) dL_law_1472 rfl ?_
                                                                                          refine go_iconst (pc := 1473) (v := (2 : Int32)) dL_law_1473 (by decide) ?_
                                                                                          refine go_iadd (pc := 1474) dL_law_1474 ?_
                                                                                          obtain ⟨i344, h⟩ := g_gd h
                                                                                          refine go_xld (pc := 1475) (n := n0) (xs := xs0) hn0 hx0 (g_inb_ok i344) dL_law_1475 ?_
                                                                                          refine go_aload_n (pc := 1476) dL_law_1476 rfl ?_
                                                                                          refine go_iload_n (pc := 1477) dL_law_1477 rfl ?_
                                                                                          refine go_iconst (pc := 1478) (v := (3 : Int32)) dL_law_1478 (by decide) ?_
                                                                                          refine go_iadd (pc := 1479) dL_law_1479 ?_
                                                                                          obtain ⟨i345, h⟩ := g_gd h
                                                                                          refine go_xld (pc := 1480) (n := n0) (xs := xs0) hn0 hx0 (g_inb_ok i345) dL_law_1480 ?_
                                                                                          obtain ⟨u346, c347, h⟩ := g_bd h
                                                                                          refine go_callV (pc := 1481) (as := [.inl (xs0 (v3 + (1 : Int32)).toNatClampNeg), .inl (xs0 (v3 + (2 : Int32)).toNatClampNeg), .inl (xs0 (v3 + (3 : Int32)).toNatClampNeg)]) (st := []) (r := u346.1) (M1 := u346.2) (z_X8_bridge hok  c347) cw_X8_bridge ml_L_182 (show g_lay[0]? = some _ from rfl) rfl rfl (by decide) (Nat.le_of_ble_eq_true rfl) rfl dL_law_1481 ?_
                                                                                          refine go_aload_n (pc := 1484) dL_law_1484 rfl ?_
                                                                                          refine go_aload_n (pc := 1485) dL_law_1485 rfl ?_
                                                                                          refine go_iload_n (pc := 1486) dL_law_1486 rfl ?_
                                                                                          refine go_iconst (pc := 1487) (v := (1 : Int32)) dL_law_1487 (by decide) ?_
                                                                                          refine go_iadd (pc := 1488) dL_law_1488 ?_
                                                                                          obtain ⟨i348, h⟩ := g_gd h
                                                                                          refine go_xld (pc := 1489) (n := n0) (xs := xs0) hn0 hx0 (g_inb_ok i348) dL_law_1489 ?_
                                                                                          refine go_aload_n (pc := 1490) dL_law_1490 rfl ?_
                                                                                          refine go_iload_n (pc := 1491) dL_law_1491 rfl ?_
                                                                                          refine go_iconst (pc := 1492) (v := (2 : Int32)) dL_law_1492 (by decide) ?_
                                                                                          refine go_iadd (pc := 1493) dL_law_1493 ?_
                                                                                          obtain ⟨i349, h⟩ := g_gd h
                                                                                          refine go_xld (pc := 1494) (n := n0) (xs := xs0) hn0 hx0 (g_inb_ok i349) dL_law_1494 ?_
                                                                                          refine go_aload_n (pc := 1495) dL_law_1495 rfl ?_
                                                                                          refine go_iload_n (pc := 1496) dL_law_1496 rfl ?_
                                                                                          refine go_iconst (pc := 1497) (v := (3 : Int32)) dL_law_1497 (by decide) ?_
                                                                                          refine go_iadd (pc := 1498) dL_law_1498 ?_
                                                                                          obtain ⟨i350, h⟩ := g_gd h
                                                                                          refine go_xld (pc := 1499) (n := n0) (xs := xs0) hn0 hx0 (g_inb_ok i350) dL_law_1499 ?_
                                                                                          obtain ⟨u351, c352, h⟩ := g_bd h
                                                                                          refine go_callV (pc := 1500) (as := [.inl (xs0 (v3 + (1 : Int32)).toNatClampNeg), .inl (xs0 (v3 + (2 : Int32)).toNatClampNeg), .inl (xs0 (v3 + (3 : Int32)).toNatClampNeg)]) (st := [.inl u346.1]) (r := u351.1) (M1 := u351.2) (z_X9_bridge hok  c352) cw_X9_bridge ml_L_185 (show g_lay[41]? = some _ from rfl) rfl rfl (by decide) (Nat.le_of_ble_eq_true rfl) rfl dL_law_1500 ?_
                                                                                          refine go_icmp_eq (pc := 1503) (tgt := 1765) dL_law_1503 (by decide) (fun e353 => ?_) (fun e353 => ?_)
                                                                                          · replace h := (if_pos e353).symm.trans h
                                                                                            refine go_iinc (pc := 1765) (v := (5 : Int32)) (lv' := [some (.inr 5000), some (.inr 0), some (.inr 41), some (.inl (v3 + (5 : Int32)))]) dL_law_1765 rfl (by decide) (by decide) rfl ?_
                                                                                            refine go_goto (pc := 1768) (tgt := 18) dL_law_1768 (by decide) ?_
                                                                                            exact go_to (ih _ _ h) (And.intro rfl (And.intro rfl (And.intro rfl (And.intro rfl trivial))))
                                                                                          · replace h := (if_neg e353).symm.trans h
                                                                                            refine go_iconst (pc := 1506) (v := (0 : Int32)) dL_law_1506 (by decide) ?_
                                                                                            exact go_iret (pc := 1507) (Option.some.inj h).symm rfl dL_law_1507 rfl
                                                                                        · replace h := (if_neg e468).symm.trans h
                                                                                          by_cases e469 : ((xs0 v3.toNatClampNeg) &&& (63 : Int32)) = (42 : Int32)
                                                                                          · replace h := (if_pos e469).symm.trans h
                                                                                            refine go_tabIn (pc := 32) (off := 1476) (tgt := 1508) dL_law_32 (by rw [e469]; decide) (by rw [e469]; decide) (by rw [e469]; decide) (by decide) ?_
                                                                                            refine go_aload_n (pc := 1508) dL_law_1508 rfl ?_
                                                                                            refine go_aload_n (pc := 1509) dL_law_1509 rfl ?_
                                                                                            refine go_iload_n (pc := 1510) dL_law_1510 rfl ?_
                                                                                            refine go_iconst (pc := 1511) (v := (1 : Int32)) dL_law_1511 (by decide) ?_
                                                                                            refine go_iadd (pc := 1512) dL_law_1512 ?_
                                                                                            obtain ⟨i354, h⟩ := g_gd h
                                                                                            refine go_xld (pc := 1513) (n := n0) (xs := xs0) hn0 hx0 (g_inb_ok i354) dL_law_1513 ?_
                                                                                            refine go_aload_n (pc := 1514) dL_law_1514 rfl ?_
                                                                                            refine go_iload_n (pc := 1515) dL_law_1515 rfl ?_
                                                                                            refine go_iconst (pc := 1516) (v := (2 : Int32)) dL_law_1516 (by decide) ?_
                                                                                            refine go_iadd (pc := 1517) dL_law_1517 ?_
                                                                                            obtain ⟨i355, h⟩ := g_gd h
                                                                                            refine go_xld (pc := 1518) (n := n0) (xs := xs0) hn0 hx0 (g_inb_ok i355) dL_law_1518 ?_
                                                                                            refine go_aload_n (pc := 1519) dL_law_1519 rfl ?_
                                                                                            refine go_iload_n (pc := 1520) dL_law_1520 rfl ?_
                                                                                            refine go_iconst (pc := 1521) (v := (3 : Int32)) dL_law_1521 (by decide) ?_
                                                                                            refine go_iadd (pc := 1522) dL_law_1522 ?_
                                                                                            obtain ⟨i356, h⟩ := g_gd h
                                                                                            refine go_xld (pc := 1523) (n := n0) (xs := xs0) hn0 hx0 (g_inb_ok i356) dL_law_1523 ?_
                                                                                            obtain ⟨u357, c358, h⟩ := g_bd h
                                                                                            refine go_callV (pc := 1524) (as := [.inl (xs0 (v3 + (1 : Int32)).toNatClampNeg), .inl (xs0 (v3 + (2 : Int32)).toNatClampNeg), .inl (xs0 (v3 + (3 : Int32)).toNatClampNeg)]) (st := []) (r := u357.1) (M1 := u357.2) (z_X8_passes hok  c358) cw_X8_passes ml_L_186 (show g_lay[0]? = some _ from rfl) rfl rfl (by decide) (Nat.le_of_ble_eq_true rfl) rfl dL_law_1524 ?_
                                                                                            refine go_aload_n (pc := 1527) dL_law_1527 rfl ?_
                                                                                            refine go_aload_n (pc := 1528) dL_law_1528 rfl ?_
                                                                                            refine go_iload_n (pc := 1529) dL_law_1529 rfl ?_
                                                                                            refine go_iconst (pc := 1530) (v := (1 : Int32)) dL_law_1530 (by decide) ?_
                                                                                            refine go_iadd (pc := 1531) dL_law_1531 ?_
                                                                                            obtain ⟨i359, h⟩ := g_gd h
                                                                                            refine go_xld (pc := 1532) (n := n0) (xs := xs0) hn0 hx0 (g_inb_ok i359) dL_law_1532 ?_
                                                                                            refine go_aload_n (pc := 1533) dL_law_1533 rfl ?_
                                                                                            refine go_iload_n (pc := 1534) dL_law_1534 rfl ?_
                                                                                            refine go_iconst (pc := 1535) (v := (2 : Int32)) dL_law_1535 (by decide) ?_
                                                                                            refine go_iadd (pc := 1536) dL_law_1536 ?_
                                                                                            obtain ⟨i360, h⟩ := g_gd h
                                                                                            refine go_xld (pc := 1537) (n := n0) (xs := xs0) hn0 hx0 (g_inb_ok i360) dL_law_1537 ?_
                                                                                            refine go_aload_n (pc := 1538) dL_law_1538 rfl ?_
                                                                                            refine go_iload_n (pc := 1539) dL_law_1539 rfl ?_
                                                                                            refine go_iconst (pc := 1540) (v := (3 : Int32)) dL_law_1540 (by decide) ?_
                                                                                            refine go_iadd (pc := 1541) dL_law_1541 ?_
                                                                                            obtain ⟨i361, h⟩ := g_gd h
                                                                                            refine go_xld (pc := 1542) (n := n0) (xs := xs0) hn0 hx0 (g_inb_ok i361) dL_law_1542 ?_
                                                                                            obtain ⟨u362, c363, h⟩ := g_bd h
                                                                                            refine go_callV (pc := 1543) (as := [.inl (xs0 (v3 + (1 : Int32)).toNatClampNeg), .inl (xs0 (v3 + (2 : Int32)).toNatClampNeg), .inl (xs0 (v3 + (3 : Int32)).toNatClampNeg)]) (st := [.inl u357.1]) (r := u362.1) (M1 := u362.2) (z_X9_passes_ hok  c363) cw_X9_passes_ ml_L_189 (show g_lay[41]? = some _ from rfl) rfl rfl (by decide) (Nat.le_of_ble_eq_true rfl) rfl dL_law_1543 ?_
                                                                                            refine go_icmp_eq (pc := 1546) (tgt := 1765) dL_law_1546 (by decide) (fun e364 => ?_) (fun e364 => ?_)
                                                                                            · replace h := (if_pos e364).symm.trans h
                                                                                              refine go_iinc (pc := 1765) (v := (5 : Int32)) (lv' := [some (.inr 5000), some (.inr 0), some (.inr 41), some (.inl (v3 + (5 : Int32)))]) dL_law_1765 rfl (by decide) (by decide) rfl ?_
                                                                                              refine go_goto (pc := 1768) (tgt := 18) dL_law_1768 (by decide) ?_
                                                                                              exact go_to (ih _ _ h) (And.intro rfl (And.intro rfl (And.intro rfl (And.intro rfl trivial))))
                                                                                            · replace h := (if_neg e364).symm.trans h
                                                                                              refine go_iconst (pc := 1549) (v := (0 : Int32)) dL_law_1549 (by decide) ?_
                                                                                              exact go_iret (pc := 1550) (Option.some.inj h).symm rfl dL_law_1550 rfl
                                                                                          · replace h := (if_neg e469).symm.trans h
                                                                                            by_cases e470 : ((xs0 v3.toNatClampNeg) &&& (63 : Int32)) = (43 : Int32)
                                                                                            · replace h := (if_pos e470).symm.trans h
                                                                                              refine go_tabIn (pc := 32) (off := 1519) (tgt := 1551) dL_law_32 (by rw [e470]; decide) (by rw [e470]; decide) (by rw [e470]; decide) (by decide) ?_
                                                                                              refine go_aload_n (pc := 1551) dL_law_1551 rfl ?_
                                                                                              refine go_aload_n (pc := 1552) dL_law_1552 rfl ?_
                                                                                              refine go_iload_n (pc := 1553) dL_law_1553 rfl ?_
                                                                                              refine go_iconst (pc := 1554) (v := (1 : Int32)) dL_law_1554 (by decide) ?_
                                                                                              refine go_iadd (pc := 1555) dL_law_1555 ?_
                                                                                              obtain ⟨i365, h⟩ := g_gd h
                                                                                              refine go_xld (pc := 1556) (n := n0) (xs := xs0) hn0 hx0 (g_inb_ok i365) dL_law_1556 ?_
                                                                                              refine go_aload_n (pc := 1557) dL_law_1557 rfl ?_
                                                                                              refine go_iload_n (pc := 1558) dL_law_1558 rfl ?_
                                                                                              refine go_iconst (pc := 1559) (v := (2 : Int32)) dL_law_1559 (by decide) ?_
                                                                                              refine go_iadd (pc := 1560) dL_law_1560 ?_
                                                                                              obtain ⟨i366, h⟩ := g_gd h
                                                                                              refine go_xld (pc := 1561) (n := n0) (xs := xs0) hn0 hx0 (g_inb_ok i366) dL_law_1561 ?_
                                                                                              obtain ⟨u367, c368, h⟩ := g_bd h
                                                                                              refine go_callV (pc := 1562) (as := [.inl (xs0 (v3 + (1 : Int32)).toNatClampNeg), .inl (xs0 (v3 + (2 : Int32)).toNatClampNeg)]) (st := []) (r := u367.1) (M1 := u367.2) (z_X8_waited hok  c368) cw_X8_waited ml_L_190 (show g_lay[0]? = some _ from rfl) rfl rfl (by decide) (Nat.le_of_ble_eq_true rfl) rfl dL_law_1562 ?_
                                                                                              refine go_aload_n (pc := 1565) dL_law_1565 rfl ?_
                                                                                              refine go_aload_n (pc := 1566) dL_law_1566 rfl ?_
                                                                                              refine go_iload_n (pc := 1567) dL_law_1567 rfl ?_
                                                                                              refine go_iconst (pc := 1568) (v := (1 : Int32)) dL_law_1568 (by decide) ?_
                                                                                              refine go_iadd (pc := 1569) dL_law_1569 ?_
                                                                                              obtain ⟨i369, h⟩ := g_gd h
                                                                                              refine go_xld (pc := 1570) (n := n0) (xs := xs0) hn0 hx0 (g_inb_ok i369) dL_law_1570 ?_
                                                                                              refine go_aload_n (pc := 1571) dL_law_1571 rfl ?_
                                                                                              refine go_iload_n (pc := 1572) dL_law_1572 rfl ?_
                                                                                              refine go_iconst (pc := 1573) (v := (2 : Int32)) dL_law_1573 (by decide) ?_
                                                                                              refine go_iadd (pc := 1574) dL_law_1574 ?_
                                                                                              obtain ⟨i370, h⟩ := g_gd h
                                                                                              refine go_xld (pc := 1575) (n := n0) (xs := xs0) hn0 hx0 (g_inb_ok i370) dL_law_1575 ?_
                                                                                              obtain ⟨u371, c372, h⟩ := g_bd h
                                                                                              refine go_callV (pc := 1576) (as := [.inl (xs0 (v3 + (1 : Int32)).toNatClampNeg), .inl (xs0 (v3 + (2 : Int32)).toNatClampNeg)]) (st := [.inl u367.1]) (r := u371.1) (M1 := u371.2) (z_X9_waited hok  c372) cw_X9_waited ml_L_193 (show g_lay[41]? = some _ from rfl) rfl rfl (by decide) (Nat.le_of_ble_eq_true rfl) rfl dL_law_1576 ?_
                                                                                              refine go_icmp_eq (pc := 1579) (tgt := 1765) dL_law_1579 (by decide) (fun e373 => ?_) (fun e373 => ?_)
                                                                                              · replace h := (if_pos e373).symm.trans h
                                                                                                refine go_iinc (pc := 1765) (v := (5 : Int32)) (lv' := [some (.inr 5000), some (.inr 0), some (.inr 41), some (.inl (v3 + (5 : Int32)))]) dL_law_1765 rfl (by decide) (by decide) rfl ?_
                                                                                                refine go_goto (pc := 1768) (tgt := 18) dL_law_1768 (by decide) ?_
                                                                                                exact go_to (ih _ _ h) (And.intro rfl (And.intro rfl (And.intro rfl (And.intro rfl trivial))))
                                                                                              · replace h := (if_neg e373).symm.trans h
                                                                                                refine go_iconst (pc := 1582) (v := (0 : Int32)) dL_law_1582 (by decide) ?_
                                                                                                exact go_iret (pc := 1583) (Option.some.inj h).symm rfl dL_law_1583 rfl
                                                                                            · replace h := (if_neg e470).symm.trans h
                                                                                              by_cases e471 : ((xs0 v3.toNatClampNeg) &&& (63 : Int32)) = (44 : Int32)
                                                                                              · replace h := (if_pos e471).symm.trans h
                                                                                                refine go_tabIn (pc := 32) (off := 1552) (tgt := 1584) dL_law_32 (by rw [e471]; decide) (by rw [e471]; decide) (by rw [e471]; decide) (by decide) ?_
                                                                                                refine go_aload_n (pc := 1584) dL_law_1584 rfl ?_
                                                                                                refine go_aload_n (pc := 1585) dL_law_1585 rfl ?_
                                                                                                refine go_iload_n (pc := 1586) dL_law_1586 rfl ?_
                                                                                                refine go_iconst (pc := 1587) (v := (1 : Int32)) dL_law_1587 (by decide) ?_
                                                                                                refine go_iadd (pc := 1588) dL_law_1588 ?_
                                                                                                obtain ⟨i374, h⟩ := g_gd h
                                                                                                refine go_xld (pc := 1589) (n := n0) (xs := xs0) hn0 hx0 (g_inb_ok i374) dL_law_1589 ?_
                                                                                                obtain ⟨u375, c376, h⟩ := g_bd h
                                                                                                refine go_callV (pc := 1590) (as := [.inl (xs0 (v3 + (1 : Int32)).toNatClampNeg)]) (st := []) (r := u375.1) (M1 := u375.2) (z_X8_cheapest hok  c376) cw_X8_cheapest ml_L_194 (show g_lay[0]? = some _ from rfl) rfl rfl (by decide) (Nat.le_of_ble_eq_true rfl) rfl dL_law_1590 ?_
                                                                                                refine go_aload_n (pc := 1593) dL_law_1593 rfl ?_
                                                                                                refine go_aload_n (pc := 1594) dL_law_1594 rfl ?_
                                                                                                refine go_iload_n (pc := 1595) dL_law_1595 rfl ?_
                                                                                                refine go_iconst (pc := 1596) (v := (1 : Int32)) dL_law_1596 (by decide) ?_
                                                                                                refine go_iadd (pc := 1597) dL_law_1597 ?_
                                                                                                obtain ⟨i377, h⟩ := g_gd h
                                                                                                refine go_xld (pc := 1598) (n := n0) (xs := xs0) hn0 hx0 (g_inb_ok i377) dL_law_1598 ?_
                                                                                                obtain ⟨u378, c379, h⟩ := g_bd h
                                                                                                refine go_callV (pc := 1599) (as := [.inl (xs0 (v3 + (1 : Int32)).toNatClampNeg)]) (st := [.inl u375.1]) (r := u378.1) (M1 := u378.2) (z_X9_cheapest hok  c379) cw_X9_cheapest ml_L_197 (show g_lay[41]? = some _ from rfl) rfl rfl (by decide) (Nat.le_of_ble_eq_true rfl) rfl dL_law_1599 ?_
                                                                                                refine go_icmp_eq (pc := 1602) (tgt := 1765) dL_law_1602 (by decide) (fun e380 => ?_) (fun e380 => ?_)
                                                                                                · replace h := (if_pos e380).symm.trans h
                                                                                                  refine go_iinc (pc := 1765) (v := (5 : Int32)) (lv' := [some (.inr 5000), some (.inr 0), some (.inr 41), some (.inl (v3 + (5 : Int32)))]) dL_law_1765 rfl (by decide) (by decide) rfl ?_
                                                                                                  refine go_goto (pc := 1768) (tgt := 18) dL_law_1768 (by decide) ?_
                                                                                                  exact go_to (ih _ _ h) (And.intro rfl (And.intro rfl (And.intro rfl (And.intro rfl trivial))))
                                                                                                · replace h := (if_neg e380).symm.trans h
                                                                                                  refine go_iconst (pc := 1605) (v := (0 : Int32)) dL_law_1605 (by decide) ?_
                                                                                                  exact go_iret (pc := 1606) (Option.some.inj h).symm rfl dL_law_1606 rfl
                                                                                              · replace h := (if_neg e471).symm.trans h
                                                                                                by_cases e472 : ((xs0 v3.toNatClampNeg) &&& (63 : Int32)) = (45 : Int32)
                                                                                                · replace h := (if_pos e472).symm.trans h
                                                                                                  refine go_tabIn (pc := 32) (off := 1575) (tgt := 1607) dL_law_32 (by rw [e472]; decide) (by rw [e472]; decide) (by rw [e472]; decide) (by decide) ?_
                                                                                                  refine go_aload_n (pc := 1607) dL_law_1607 rfl ?_
                                                                                                  refine go_aload_n (pc := 1608) dL_law_1608 rfl ?_
                                                                                                  refine go_iload_n (pc := 1609) dL_law_1609 rfl ?_
                                                                                                  refine go_iconst (pc := 1610) (v := (1 : Int32)) dL_law_1610 (by decide) ?_
                                                                                                  refine go_iadd (pc := 1611) dL_law_1611 ?_
                                                                                                  obtain ⟨i381, h⟩ := g_gd h
                                                                                                  refine go_xld (pc := 1612) (n := n0) (xs := xs0) hn0 hx0 (g_inb_ok i381) dL_law_1612 ?_
                                                                                                  obtain ⟨u382, c383, h⟩ := g_bd h
                                                                                                  refine go_callV (pc := 1613) (as := [.inl (xs0 (v3 + (1 : Int32)).toNatClampNeg)]) (st := []) (r := u382.1) (M1 := u382.2) (z_X8_crossed hok  c383) cw_X8_crossed ml_L_198 (show g_lay[0]? = some _ from rfl) rfl rfl (by decide) (Nat.le_of_ble_eq_true rfl) rfl dL_law_1613 ?_
                                                                                                  refine go_aload_n (pc := 1616) dL_law_1616 rfl ?_
                                                                                                  refine go_aload_n (pc := 1617) dL_law_1617 rfl ?_
                                                                                                  refine go_iload_n (pc := 1618) dL_law_1618 rfl ?_
                                                                                                  refine go_iconst (pc := 1619) (v := (1 : Int32)) dL_law_1619 (by decide) ?_
                                                                                                  refine go_iadd (pc := 1620) dL_law_1620 ?_
                                                                                                  obtain ⟨i384, h⟩ := g_gd h
                                                                                                  refine go_xld (pc := 1621) (n := n0) (xs := xs0) hn0 hx0 (g_inb_ok i384) dL_law_1621 ?_
                                                                                                  obtain ⟨u385, c386, h⟩ := g_bd h
                                                                                                  refine go_callV (pc := 1622) (as := [.inl (xs0 (v3 + (1 : Int32)).toNatClampNeg)]) (st := [.inl u382.1]) (r := u385.1) (M1 := u385.2) (z_X9_crossed hok  c386) cw_X9_crossed ml_L_201 (show g_lay[41]? = some _ from rfl) rfl rfl (by decide) (Nat.le_of_ble_eq_true rfl) rfl dL_law_1622 ?_
                                                                                                  refine go_icmp_eq (pc := 1625) (tgt := 1765) dL_law_1625 (by decide) (fun e387 => ?_) (fun e387 => ?_)
                                                                                                  · replace h := (if_pos e387).symm.trans h
                                                                                                    refine go_iinc (pc := 1765) (v := (5 : Int32)) (lv' := [some (.inr 5000), some (.inr 0), some (.inr 41), some (.inl (v3 + (5 : Int32)))]) dL_law_1765 rfl (by decide) (by decide) rfl ?_
                                                                                                    refine go_goto (pc := 1768) (tgt := 18) dL_law_1768 (by decide) ?_
                                                                                                    exact go_to (ih _ _ h) (And.intro rfl (And.intro rfl (And.intro rfl (And.intro rfl trivial))))
                                                                                                  · replace h := (if_neg e387).symm.trans h
                                                                                                    refine go_iconst (pc := 1628) (v := (0 : Int32)) dL_law_1628 (by decide) ?_
                                                                                                    exact go_iret (pc := 1629) (Option.some.inj h).symm rfl dL_law_1629 rfl
                                                                                                · replace h := (if_neg e472).symm.trans h
                                                                                                  by_cases e473 : ((xs0 v3.toNatClampNeg) &&& (63 : Int32)) = (46 : Int32)
                                                                                                  · replace h := (if_pos e473).symm.trans h
                                                                                                    refine go_tabIn (pc := 32) (off := 1598) (tgt := 1630) dL_law_32 (by rw [e473]; decide) (by rw [e473]; decide) (by rw [e473]; decide) (by decide) ?_
                                                                                                    refine go_aload_n (pc := 1630) dL_law_1630 rfl ?_
                                                                                                    refine go_aload_n (pc := 1631) dL_law_1631 rfl ?_
                                                                                                    refine go_iload_n (pc := 1632) dL_law_1632 rfl ?_
                                                                                                    refine go_iconst (pc := 1633) (v := (1 : Int32)) dL_law_1633 (by decide) ?_
                                                                                                    refine go_iadd (pc := 1634) dL_law_1634 ?_
                                                                                                    obtain ⟨i388, h⟩ := g_gd h
                                                                                                    refine go_xld (pc := 1635) (n := n0) (xs := xs0) hn0 hx0 (g_inb_ok i388) dL_law_1635 ?_
                                                                                                    refine go_aload_n (pc := 1636) dL_law_1636 rfl ?_
                                                                                                    refine go_iload_n (pc := 1637) dL_law_1637 rfl ?_
                                                                                                    refine go_iconst (pc := 1638) (v := (2 : Int32)) dL_law_1638 (by decide) ?_
                                                                                                    refine go_iadd (pc := 1639) dL_law_1639 ?_
                                                                                                    obtain ⟨i389, h⟩ := g_gd h
                                                                                                    refine go_xld (pc := 1640) (n := n0) (xs := xs0) hn0 hx0 (g_inb_ok i389) dL_law_1640 ?_
                                                                                                    refine go_aload_n (pc := 1641) dL_law_1641 rfl ?_
                                                                                                    refine go_iload_n (pc := 1642) dL_law_1642 rfl ?_
                                                                                                    refine go_iconst (pc := 1643) (v := (3 : Int32)) dL_law_1643 (by decide) ?_
                                                                                                    refine go_iadd (pc := 1644) dL_law_1644 ?_
                                                                                                    obtain ⟨i390, h⟩ := g_gd h
                                                                                                    refine go_xld (pc := 1645) (n := n0) (xs := xs0) hn0 hx0 (g_inb_ok i390) dL_law_1645 ?_
                                                                                                    obtain ⟨u391, c392, h⟩ := g_bd h
                                                                                                    refine go_callV (pc := 1646) (as := [.inl (xs0 (v3 + (1 : Int32)).toNatClampNeg), .inl (xs0 (v3 + (2 : Int32)).toNatClampNeg), .inl (xs0 (v3 + (3 : Int32)).toNatClampNeg)]) (st := []) (r := u391.1) (M1 := u391.2) (z_X8_hung hok  c392) cw_X8_hung ml_L_202 (show g_lay[0]? = some _ from rfl) rfl rfl (by decide) (Nat.le_of_ble_eq_true rfl) rfl dL_law_1646 ?_
                                                                                                    refine go_aload_n (pc := 1649) dL_law_1649 rfl ?_
                                                                                                    refine go_aload_n (pc := 1650) dL_law_1650 rfl ?_
                                                                                                    refine go_iload_n (pc := 1651) dL_law_1651 rfl ?_
                                                                                                    refine go_iconst (pc := 1652) (v := (1 : Int32)) dL_law_1652 (by decide) ?_
                                                                                                    refine go_iadd (pc := 1653) dL_law_1653 ?_
                                                                                                    obtain ⟨i393, h⟩ := g_gd h
                                                                                                    refine go_xld (pc := 1654) (n := n0) (xs := xs0) hn0 hx0 (g_inb_ok i393) dL_law_1654 ?_
                                                                                                    refine go_aload_n (pc := 1655) dL_law_1655 rfl ?_
                                                                                                    refine go_iload_n (pc := 1656) dL_law_1656 rfl ?_
                                                                                                    refine go_iconst (pc := 1657) (v := (2 : Int32)) dL_law_1657 (by decide) ?_
                                                                                                    refine go_iadd (pc := 1658) dL_law_1658 ?_
                                                                                                    obtain ⟨i394, h⟩ := g_gd h
                                                                                                    refine go_xld (pc := 1659) (n := n0) (xs := xs0) hn0 hx0 (g_inb_ok i394) dL_law_1659 ?_
                                                                                                    refine go_aload_n (pc := 1660) dL_law_1660 rfl ?_
                                                                                                    refine go_iload_n (pc := 1661) dL_law_1661 rfl ?_
                                                                                                    refine go_iconst (pc := 1662) (v := (3 : Int32)) dL_law_1662 (by decide) ?_
                                                                                                    refine go_iadd (pc := 1663) dL_law_1663 ?_
                                                                                                    obtain ⟨i395, h⟩ := g_gd h
                                                                                                    refine go_xld (pc := 1664) (n := n0) (xs := xs0) hn0 hx0 (g_inb_ok i395) dL_law_1664 ?_
                                                                                                    obtain ⟨u396, c397, h⟩ := g_bd h
                                                                                                    refine go_callV (pc := 1665) (as := [.inl (xs0 (v3 + (1 : Int32)).toNatClampNeg), .inl (xs0 (v3 + (2 : Int32)).toNatClampNeg), .inl (xs0 (v3 + (3 : Int32)).toNatClampNeg)]) (st := [.inl u391.1]) (r := u396.1) (M1 := u396.2) (z_X9_hung hok  c397) cw_X9_hung ml_L_205 (show g_lay[41]? = some _ from rfl) rfl rfl (by decide) (Nat.le_of_ble_eq_true rfl) rfl dL_law_1665 ?_
                                                                                                    refine go_icmp_eq (pc := 1668) (tgt := 1765) dL_law_1668 (by decide) (fun e398 => ?_) (fun e398 => ?_)
                                                                                                    · replace h := (if_pos e398).symm.trans h
                                                                                                      refine go_iinc (pc := 1765) (v := (5 : Int32)) (lv' := [some (.inr 5000), some (.inr 0), some (.inr 41), some (.inl (v3 + (5 : Int32)))]) dL_law_1765 rfl (by decide) (by decide) rfl ?_
                                                                                                      refine go_goto (pc := 1768) (tgt := 18) dL_law_1768 (by decide) ?_
                                                                                                      exact go_to (ih _ _ h) (And.intro rfl (And.intro rfl (And.intro rfl (And.intro rfl trivial))))
                                                                                                    · replace h := (if_neg e398).symm.trans h
                                                                                                      refine go_iconst (pc := 1671) (v := (0 : Int32)) dL_law_1671 (by decide) ?_
                                                                                                      exact go_iret (pc := 1672) (Option.some.inj h).symm rfl dL_law_1672 rfl
                                                                                                  · replace h := (if_neg e473).symm.trans h
                                                                                                    by_cases e474 : ((xs0 v3.toNatClampNeg) &&& (63 : Int32)) = (47 : Int32)
                                                                                                    · replace h := (if_pos e474).symm.trans h
                                                                                                      refine go_tabIn (pc := 32) (off := 1641) (tgt := 1673) dL_law_32 (by rw [e474]; decide) (by rw [e474]; decide) (by rw [e474]; decide) (by decide) ?_
                                                                                                      refine go_aload_n (pc := 1673) dL_law_1673 rfl ?_
                                                                                                      refine go_aload_n (pc := 1674) dL_law_1674 rfl ?_
                                                                                                      refine go_iload_n (pc := 1675) dL_law_1675 rfl ?_
                                                                                                      refine go_iconst (pc := 1676) (v := (1 : Int32)) dL_law_1676 (by decide) ?_
                                                                                                      refine go_iadd (pc := 1677) dL_law_1677 ?_
                                                                                                      obtain ⟨i399, h⟩ := g_gd h
                                                                                                      refine go_xld (pc := 1678) (n := n0) (xs := xs0) hn0 hx0 (g_inb_ok i399) dL_law_1678 ?_
                                                                                                      refine go_aload_n (pc := 1679) dL_law_1679 rfl ?_
                                                                                                      refine go_iload_n (pc := 1680) dL_law_1680 rfl ?_
                                                                                                      refine go_iconst (pc := 1681) (v := (2 : Int32)) dL_law_1681 (by decide) ?_
                                                                                                      refine go_iadd (pc := 1682) dL_law_1682 ?_
                                                                                                      obtain ⟨i400, h⟩ := g_gd h
                                                                                                      refine go_xld (pc := 1683) (n := n0) (xs := xs0) hn0 hx0 (g_inb_ok i400) dL_law_1683 ?_
                                                                                                      refine go_aload_n (pc := 1684) dL_law_1684 rfl ?_
                                                                                                      refine go_iload_n (pc := 1685) dL_law_1685 rfl ?_
                                                                                                      refine go_iconst (pc := 1686) (v := (3 : Int32)) dL_law_1686 (by decide) ?_
                                                                                                      refine go_iadd (pc := 1687) dL_law_1687 ?_
                                                                                                      obtain ⟨i401, h⟩ := g_gd h
                                                                                                      refine go_xld (pc := 1688) (n := n0) (xs := xs0) hn0 hx0 (g_inb_ok i401) dL_law_1688 ?_
                                                                                                      obtain ⟨u402, c403, h⟩ := g_bd h
                                                                                                      refine go_callV (pc := 1689) (as := [.inl (xs0 (v3 + (1 : Int32)).toNatClampNeg), .inl (xs0 (v3 + (2 : Int32)).toNatClampNeg), .inl (xs0 (v3 + (3 : Int32)).toNatClampNeg)]) (st := []) (r := u402.1) (M1 := u402.2) (z_X8_skippers hok  c403) cw_X8_skippers ml_L_206 (show g_lay[0]? = some _ from rfl) rfl rfl (by decide) (Nat.le_of_ble_eq_true rfl) rfl dL_law_1689 ?_
                                                                                                      refine go_aload_n (pc := 1692) dL_law_1692 rfl ?_
                                                                                                      refine go_aload_n (pc := 1693) dL_law_1693 rfl ?_
                                                                                                      refine go_iload_n (pc := 1694) dL_law_1694 rfl ?_
                                                                                                      refine go_iconst (pc := 1695) (v := (1 : Int32)) dL_law_1695 (by decide) ?_
                                                                                                      refine go_iadd (pc := 1696) dL_law_1696 ?_
                                                                                                      obtain ⟨i404, h⟩ := g_gd h
                                                                                                      refine go_xld (pc := 1697) (n := n0) (xs := xs0) hn0 hx0 (g_inb_ok i404) dL_law_1697 ?_
                                                                                                      refine go_aload_n (pc := 1698) dL_law_1698 rfl ?_
                                                                                                      refine go_iload_n (pc := 1699) dL_law_1699 rfl ?_
                                                                                                      refine go_iconst (pc := 1700) (v := (2 : Int32)) dL_law_1700 (by decide) ?_
                                                                                                      refine go_iadd (pc := 1701) dL_law_1701 ?_
                                                                                                      obtain ⟨i405, h⟩ := g_gd h
                                                                                                      refine go_xld (pc := 1702) (n := n0) (xs := xs0) hn0 hx0 (g_inb_ok i405) dL_law_1702 ?_
                                                                                                      refine go_aload_n (pc := 1703) dL_law_1703 rfl ?_
                                                                                                      refine go_iload_n (pc := 1704) dL_law_1704 rfl ?_
                                                                                                      refine go_iconst (pc := 1705) (v := (3 : Int32)) dL_law_1705 (by decide) ?_
                                                                                                      refine go_iadd (pc := 1706) dL_law_1706 ?_
                                                                                                      obtain ⟨i406, h⟩ := g_gd h
                                                                                                      refine go_xld (pc := 1707) (n := n0) (xs := xs0) hn0 hx0 (g_inb_ok i406) dL_law_1707 ?_
                                                                                                      obtain ⟨u407, c408, h⟩ := g_bd h
                                                                                                      refine go_callV (pc := 1708) (as := [.inl (xs0 (v3 + (1 : Int32)).toNatClampNeg), .inl (xs0 (v3 + (2 : Int32)).toNatClampNeg), .inl (xs0 (v3 + (3 : Int32)).toNatClampNeg)]) (st := [.inl u402.1]) (r := u407.1) (M1 := u407.2) (z_X9_skippers hok  c408) cw_X9_skippers ml_L_209 (show g_lay[41]? = some _ from rfl) rfl rfl (by decide) (Nat.le_of_ble_eq_true rfl) rfl dL_law_1708 ?_
                                                                                                      refine go_icmp_eq (pc := 1711) (tgt := 1765) dL_law_1711 (by decide) (fun e409 => ?_) (fun e409 => ?_)
                                                                                                      · replace h := (if_pos e409).symm.trans h
                                                                                                        refine go_iinc (pc := 1765) (v := (5 : Int32)) (lv' := [some (.inr 5000), some (.inr 0), some (.inr 41), some (.inl (v3 + (5 : Int32)))]) dL_law_1765 rfl (by decide) (by decide) rfl ?_
                                                                                                        refine go_goto (pc := 1768) (tgt := 18) dL_law_1768 (by decide) ?_
                                                                                                        exact go_to (ih _ _ h) (And.intro rfl (And.intro rfl (And.intro rfl (And.intro rfl trivial))))
                                                                                                      · replace h := (if_neg e409).symm.trans h
                                                                                                        refine go_iconst (pc := 1714) (v := (0 : Int32)) dL_law_1714 (by decide) ?_
                                                                                                        exact go_iret (pc := 1715) (Option.some.inj h).symm rfl dL_law_1715 rfl
                                                                                                    · replace h := (if_neg e474).symm.trans h
                                                                                                      by_cases e475 : ((xs0 v3.toNatClampNeg) &&& (63 : Int32)) = (48 : Int32)
                                                                                                      · replace h := (if_pos e475).symm.trans h
                                                                                                        refine go_tabIn (pc := 32) (off := 1684) (tgt := 1716) dL_law_32 (by rw [e475]; decide) (by rw [e475]; decide) (by rw [e475]; decide) (by decide) ?_
                                                                                                        refine go_aload_n (pc := 1716) dL_law_1716 rfl ?_
                                                                                                        obtain ⟨u410, c411, h⟩ := g_bd h
                                                                                                        refine go_callV (pc := 1717) (as := []) (st := []) (r := u410.1) (M1 := u410.2) (z_X8_image hok  c411) cw_X8_image ml_L_210 (show g_lay[0]? = some _ from rfl) rfl rfl (by decide) (Nat.le_of_ble_eq_true rfl) rfl dL_law_1717 ?_
                                                                                                        refine go_aload_n (pc := 1720) dL_law_1720 rfl ?_
                                                                                                        obtain ⟨u412, c413, h⟩ := g_bd h
                                                                                                        refine go_callV (pc := 1721) (as := []) (st := [.inl u410.1]) (r := u412.1) (M1 := u412.2) (z_X9_image hok  c413) cw_X9_image ml_L_213 (show g_lay[41]? = some _ from rfl) rfl rfl (by decide) (Nat.le_of_ble_eq_true rfl) rfl dL_law_1721 ?_
                                                                                                        refine go_icmp_eq (pc := 1724) (tgt := 1765) dL_law_1724 (by decide) (fun e414 => ?_) (fun e414 => ?_)
                                                                                                        · replace h := (if_pos e414).symm.trans h
                                                                                                          refine go_iinc (pc := 1765) (v := (5 : Int32)) (lv' := [some (.inr 5000), some (.inr 0), some (.inr 41), some (.inl (v3 + (5 : Int32)))]) dL_law_1765 rfl (by decide) (by decide) rfl ?_
                                                                                                          refine go_goto (pc := 1768) (tgt := 18) dL_law_1768 (by decide) ?_
                                                                                                          exact go_to (ih _ _ h) (And.intro rfl (And.intro rfl (And.intro rfl (And.intro rfl trivial))))
                                                                                                        · replace h := (if_neg e414).symm.trans h
                                                                                                          refine go_iconst (pc := 1727) (v := (0 : Int32)) dL_law_1727 (by decide) ?_
                                                                                                          exact go_iret (pc := 1728) (Option.some.inj h).symm rfl dL_law_1728 rfl
                                                                                                      · replace h := (if_neg e475).symm.trans h
                                                                                                        by_cases e476 : ((xs0 v3.toNatClampNeg) &&& (63 : Int32)) = (49 : Int32)
                                                                                                        · replace h := (if_pos e476).symm.trans h
                                                                                                          refine go_tabIn (pc := 32) (off := 1697) (tgt := 1729) dL_law_32 (by rw [e476]; decide) (by rw [e476]; decide) (by rw [e476]; decide) (by decide) ?_
                                                                                                          refine go_aload_n (pc := 1729) dL_law_1729 rfl ?_
                                                                                                          obtain ⟨u415, c416, h⟩ := g_bd h
                                                                                                          refine go_callV (pc := 1730) (as := []) (st := []) (r := u415.1) (M1 := u415.2) (z_X8_restore hok  c416) cw_X8_restore ml_L_214 (show g_lay[0]? = some _ from rfl) rfl rfl (by decide) (Nat.le_of_ble_eq_true rfl) rfl dL_law_1730 ?_
                                                                                                          refine go_aload_n (pc := 1733) dL_law_1733 rfl ?_
                                                                                                          obtain ⟨u417, c418, h⟩ := g_bd h
                                                                                                          refine go_callV (pc := 1734) (as := []) (st := [.inl u415.1]) (r := u417.1) (M1 := u417.2) (z_X9_restore hok  c418) cw_X9_restore ml_L_217 (show g_lay[41]? = some _ from rfl) rfl rfl (by decide) (Nat.le_of_ble_eq_true rfl) rfl dL_law_1734 ?_
                                                                                                          refine go_icmp_eq (pc := 1737) (tgt := 1765) dL_law_1737 (by decide) (fun e419 => ?_) (fun e419 => ?_)
                                                                                                          · replace h := (if_pos e419).symm.trans h
                                                                                                            refine go_iinc (pc := 1765) (v := (5 : Int32)) (lv' := [some (.inr 5000), some (.inr 0), some (.inr 41), some (.inl (v3 + (5 : Int32)))]) dL_law_1765 rfl (by decide) (by decide) rfl ?_
                                                                                                            refine go_goto (pc := 1768) (tgt := 18) dL_law_1768 (by decide) ?_
                                                                                                            exact go_to (ih _ _ h) (And.intro rfl (And.intro rfl (And.intro rfl (And.intro rfl trivial))))
                                                                                                          · replace h := (if_neg e419).symm.trans h
                                                                                                            refine go_iconst (pc := 1740) (v := (0 : Int32)) dL_law_1740 (by decide) ?_
                                                                                                            exact go_iret (pc := 1741) (Option.some.inj h).symm rfl dL_law_1741 rfl
                                                                                                        · replace h := (if_neg e476).symm.trans h
                                                                                                          by_cases e477 : ((xs0 v3.toNatClampNeg) &&& (63 : Int32)) = (50 : Int32)
                                                                                                          · replace h := (if_pos e477).symm.trans h
                                                                                                            refine go_tabIn (pc := 32) (off := 1710) (tgt := 1742) dL_law_32 (by rw [e477]; decide) (by rw [e477]; decide) (by rw [e477]; decide) (by decide) ?_
                                                                                                            refine go_aload_n (pc := 1742) dL_law_1742 rfl ?_
                                                                                                            refine go_aload_n (pc := 1743) dL_law_1743 rfl ?_
                                                                                                            refine go_iload_n (pc := 1744) dL_law_1744 rfl ?_
                                                                                                            refine go_iconst (pc := 1745) (v := (1 : Int32)) dL_law_1745 (by decide) ?_
                                                                                                            refine go_iadd (pc := 1746) dL_law_1746 ?_
                                                                                                            obtain ⟨i420, h⟩ := g_gd h
                                                                                                            refine go_xld (pc := 1747) (n := n0) (xs := xs0) hn0 hx0 (g_inb_ok i420) dL_law_1747 ?_
                                                                                                            obtain ⟨u421, c422, h⟩ := g_bd h
                                                                                                            refine go_callV (pc := 1748) (as := [.inl (xs0 (v3 + (1 : Int32)).toNatClampNeg)]) (st := []) (r := u421.1) (M1 := u421.2) (z_X8_count hok  c422) cw_X8_count ml_L_218 (show g_lay[0]? = some _ from rfl) rfl rfl (by decide) (Nat.le_of_ble_eq_true rfl) rfl dL_law_1748 ?_
                                                                                                            refine go_aload_n (pc := 1751) dL_law_1751 rfl ?_
                                                                                                            refine go_aload_n (pc := 1752) dL_law_1752 rfl ?_
                                                                                                            refine go_iload_n (pc := 1753) dL_law_1753 rfl ?_
                                                                                                            refine go_iconst (pc := 1754) (v := (1 : Int32)) dL_law_1754 (by decide) ?_
                                                                                                            refine go_iadd (pc := 1755) dL_law_1755 ?_
                                                                                                            obtain ⟨i423, h⟩ := g_gd h
                                                                                                            refine go_xld (pc := 1756) (n := n0) (xs := xs0) hn0 hx0 (g_inb_ok i423) dL_law_1756 ?_
                                                                                                            obtain ⟨u424, c425, h⟩ := g_bd h
                                                                                                            refine go_callV (pc := 1757) (as := [.inl (xs0 (v3 + (1 : Int32)).toNatClampNeg)]) (st := [.inl u421.1]) (r := u424.1) (M1 := u424.2) (z_X9_count hok  c425) cw_X9_count ml_L_221 (show g_lay[41]? = some _ from rfl) rfl rfl (by decide) (Nat.le_of_ble_eq_true rfl) rfl dL_law_1757 ?_
                                                                                                            refine go_icmp_eq (pc := 1760) (tgt := 1765) dL_law_1760 (by decide) (fun e426 => ?_) (fun e426 => ?_)
                                                                                                            · replace h := (if_pos e426).symm.trans h
                                                                                                              refine go_iinc (pc := 1765) (v := (5 : Int32)) (lv' := [some (.inr 5000), some (.inr 0), some (.inr 41), some (.inl (v3 + (5 : Int32)))]) dL_law_1765 rfl (by decide) (by decide) rfl ?_
                                                                                                              refine go_goto (pc := 1768) (tgt := 18) dL_law_1768 (by decide) ?_
                                                                                                              exact go_to (ih _ _ h) (And.intro rfl (And.intro rfl (And.intro rfl (And.intro rfl trivial))))
                                                                                                            · replace h := (if_neg e426).symm.trans h
                                                                                                              refine go_iconst (pc := 1763) (v := (0 : Int32)) dL_law_1763 (by decide) ?_
                                                                                                              exact go_iret (pc := 1764) (Option.some.inj h).symm rfl dL_law_1764 rfl
                                                                                                          · replace h := (if_neg e477).symm.trans h
                                                                                                            refine go_tabOut (pc := 32) (tgt := 1765) dL_law_32 (by have q0 := g_out e427 (show (0 : Int32).toInt = 0 by decide); have q1 := g_out e428 (show (1 : Int32).toInt = 1 by decide); have q2 := g_out e429 (show (2 : Int32).toInt = 2 by decide); have q3 := g_out e430 (show (3 : Int32).toInt = 3 by decide); have q4 := g_out e431 (show (4 : Int32).toInt = 4 by decide); have q5 := g_out e432 (show (5 : Int32).toInt = 5 by decide); have q6 := g_out e433 (show (6 : Int32).toInt = 6 by decide); have q7 := g_out e434 (show (7 : Int32).toInt = 7 by decide); have q8 := g_out e435 (show (8 : Int32).toInt = 8 by decide); have q9 := g_out e436 (show (9 : Int32).toInt = 9 by decide); have q10 := g_out e437 (show (10 : Int32).toInt = 10 by decide); have q11 := g_out e438 (show (11 : Int32).toInt = 11 by decide); have q12 := g_out e439 (show (12 : Int32).toInt = 12 by decide); have q13 := g_out e440 (show (13 : Int32).toInt = 13 by decide); have q14 := g_out e441 (show (14 : Int32).toInt = 14 by decide); have q15 := g_out e442 (show (15 : Int32).toInt = 15 by decide); have q16 := g_out e443 (show (16 : Int32).toInt = 16 by decide); have q17 := g_out e444 (show (17 : Int32).toInt = 17 by decide); have q18 := g_out e445 (show (18 : Int32).toInt = 18 by decide); have q19 := g_out e446 (show (19 : Int32).toInt = 19 by decide); have q20 := g_out e447 (show (20 : Int32).toInt = 20 by decide); have q21 := g_out e448 (show (21 : Int32).toInt = 21 by decide); have q22 := g_out e449 (show (22 : Int32).toInt = 22 by decide); have q23 := g_out e450 (show (23 : Int32).toInt = 23 by decide); have q24 := g_out e451 (show (24 : Int32).toInt = 24 by decide); have q25 := g_out e452 (show (25 : Int32).toInt = 25 by decide); have q26 := g_out e453 (show (26 : Int32).toInt = 26 by decide); have q27 := g_out e454 (show (27 : Int32).toInt = 27 by decide); have q28 := g_out e455 (show (28 : Int32).toInt = 28 by decide); have q29 := g_out e456 (show (29 : Int32).toInt = 29 by decide); have q30 := g_out e457 (show (30 : Int32).toInt = 30 by decide); have q31 := g_out e458 (show (31 : Int32).toInt = 31 by decide); have q32 := g_out e459 (show (32 : Int32).toInt = 32 by decide); have q33 := g_out e460 (show (33 : Int32).toInt = 33 by decide); have q34 := g_out e461 (show (34 : Int32).toInt = 34 by decide); have q35 := g_out e462 (show (35 : Int32).toInt = 35 by decide); have q36 := g_out e463 (show (36 : Int32).toInt = 36 by decide); have q37 := g_out e464 (show (37 : Int32).toInt = 37 by decide); have q38 := g_out e465 (show (38 : Int32).toInt = 38 by decide); have q39 := g_out e466 (show (39 : Int32).toInt = 39 by decide); have q40 := g_out e467 (show (40 : Int32).toInt = 40 by decide); have q41 := g_out e468 (show (41 : Int32).toInt = 41 by decide); have q42 := g_out e469 (show (42 : Int32).toInt = 42 by decide); have q43 := g_out e470 (show (43 : Int32).toInt = 43 by decide); have q44 := g_out e471 (show (44 : Int32).toInt = 44 by decide); have q45 := g_out e472 (show (45 : Int32).toInt = 45 by decide); have q46 := g_out e473 (show (46 : Int32).toInt = 46 by decide); have q47 := g_out e474 (show (47 : Int32).toInt = 47 by decide); have q48 := g_out e475 (show (48 : Int32).toInt = 48 by decide); have q49 := g_out e476 (show (49 : Int32).toInt = 49 by decide); have q50 := g_out e477 (show (50 : Int32).toInt = 50 by decide); omega) (by decide) ?_
                                                                                                            refine go_iinc (pc := 1765) (v := (5 : Int32)) (lv' := [some (.inr 5000), some (.inr 0), some (.inr 41), some (.inl (v3 + (5 : Int32)))]) dL_law_1765 rfl (by decide) (by decide) rfl ?_
                                                                                                            refine go_goto (pc := 1768) (tgt := 18) dL_law_1768 (by decide) ?_
                                                                                                            exact go_to (ih _ _ h) (And.intro rfl (And.intro rfl (And.intro rfl (And.intro rfl trivial))))
