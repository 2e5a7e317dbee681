/-! what each method's run is, between its heads (printed by wip/p50/gen06.py) -/
set_option maxRecDepth 100000 in
set_option maxHeartbeats 4000000 in
theorem e_X0_init (d : Nat) (M : LM) (o0 : Nat) : f_X0_init (d + 1) M o0 = lt_m (aNew M 19 0 3) fun M1 => lt_bv (f_X3_init d M1 (mN M)) [] fun M2 => lt_ck M2 o0 16 (lt_m (wP M2 o0 0 (some (mN M))) fun M3 => lt_m (aNew M3 20 0 4) fun M4 => lt_bv (f_X4_init d M4 (mN M3)) [] fun M5 => lt_ck M5 o0 16 (lt_m (wP M5 o0 1 (some (mN M3))) fun M6 => lt_m (aNew M6 17 0 20) fun M7 => lt_bv (f_X1_init d M7 (mN M6)) [] fun M8 => lt_ck M8 o0 16 (lt_m (wP M8 o0 2 (some (mN M6))) fun M9 => lt_ln 6 (lt_m (aNew M9 6 (lt_n 6) (lt_n 6)) fun M10 => lt_ck M10 o0 16 (lt_m (wP M10 o0 3 (some (mN M9))) fun M11 => f_X0_init_48 (d + 1) M11 o0 0))))) :=
  (lx_ev (d := d) (m := 0) (hs := [48, 75]) 61 0 [.ref o0, lt_j, lt_j] [] M).symm
set_option maxRecDepth 100000 in
set_option maxHeartbeats 4000000 in
theorem e_X0_init_48 (d : Nat) (M : LM) (o0 : Nat) (x1 : Int32) : f_X0_init_48 (d + 1) M o0 x1 = lt_ck M o0 16 (lt_rf (mP M o0 3) fun q12 => lt_al M q12 (if @LT.lt Int32 _ x1 (nI (mZ M q12)) then (if @Eq Int32 x1 0 then (lt_ck M o0 16 (lt_rf (mP M o0 2) fun q15 => f_X0_init_75 (d + 1) M o0 x1 q15)) else (lt_m (aNew M 17 0 20) fun M13 => lt_bv (f_X1_init d M13 (mN M)) [] fun M14 => f_X0_init_75 (d + 1) M14 o0 x1 (mN M))) else (some (.inl none, M)))) :=
  (lx_ev (d := d) (m := 0) (hs := [48, 75]) 61 48 [.ref o0, .int x1, lt_j] [] M).symm
set_option maxRecDepth 100000 in
set_option maxHeartbeats 4000000 in
theorem e_X0_init_75 (d : Nat) (M : LM) (o0 : Nat) (x1 : Int32) (s0 : Nat) : f_X0_init_75 (d + 1) M o0 x1 s0 = if @LT.lt Int32 _ x1 5 then (lt_ck M s0 17 (lt_bv (f_X1_setUp d M s0 x1 4 0 0) [] fun M20 => lt_ck M20 s0 17 (lt_bv (f_X1_empty d M20 s0 0) [] fun M21 => lt_ck M21 o0 16 (lt_rf (mP M21 o0 3) fun q22 => lt_as M21 q22 x1 s0 (lt_m (wP M21 q22 (lt_n x1) (some s0)) fun M23 => f_X0_init_48 (d + 1) M23 o0 (x1 + 1)))))) else (lt_ck M s0 17 (lt_bv (f_X1_setUp d M s0 6 4 0 0) [] fun M16 => lt_ck M16 s0 17 (lt_bv (f_X1_empty d M16 s0 0) [] fun M17 => lt_ck M17 o0 16 (lt_rf (mP M17 o0 3) fun q18 => lt_as M17 q18 x1 s0 (lt_m (wP M17 q18 (lt_n x1) (some s0)) fun M19 => f_X0_init_48 (d + 1) M19 o0 (x1 + 1)))))) :=
  (lx_ev (d := d) (m := 0) (hs := [48, 75]) 61 75 [.ref o0, .int x1, lt_j] [.ref s0] M).symm
set_option maxRecDepth 100000 in
set_option maxHeartbeats 4000000 in
theorem e_X0_cache (d : Nat) (M : LM) (o0 : Nat) (x1 : Int32) : f_X0_cache (d + 1) M o0 x1 = if @LT.lt Int32 _ x1 0 then (lt_ck M o0 16 (lt_rf (mP M o0 2) fun q1 => some (.inl (some (.ref q1)), M))) else (lt_ck M o0 16 (lt_rf (mP M o0 3) fun q2 => lt_al M q2 (if @LT.lt Int32 _ x1 (nI (mZ M q2)) then (lt_ck M o0 16 (lt_rf (mP M o0 3) fun q4 => lt_aa M q4 x1 (lt_rn (mP M q4 (lt_n x1)) (fun q5 => some (.inl (some (.ref q5)), M)) (lt_ck M o0 16 (lt_rf (mP M o0 2) fun q6 => some (.inl (some (.ref q6)), M)))))) else (lt_ck M o0 16 (lt_rf (mP M o0 2) fun q3 => some (.inl (some (.ref q3)), M)))))) :=
  (lx_ev (d := d) (m := 1) (hs := []) 23 0 [.ref o0, .int x1, lt_j] [] M).symm
set_option maxRecDepth 100000 in
set_option maxHeartbeats 4000000 in
theorem e_X0_isAnywhere (d : Nat) (M : LM) (o0 : Nat) (x1 : Int32) : f_X0_isAnywhere (d + 1) M o0 x1 = f_X0_isAnywhere_4 (d + 1) M o0 x1 0 0 :=
  (lx_ev (d := d) (m := 2) (hs := [4]) 32 0 [.ref o0, .int x1, lt_j, lt_j, lt_j] [] M).symm
set_option maxRecDepth 100000 in
set_option maxHeartbeats 4000000 in
theorem e_X0_isAnywhere_4 (d : Nat) (M : LM) (o0 : Nat) (x1 : Int32) (x2 : Int32) (x3 : Int32) : f_X0_isAnywhere_4 (d + 1) M o0 x1 x2 x3 = if @LT.lt Int32 _ x3 6 then (lt_ck M o0 16 (lt_br (f_X0_cache d M o0 x3) [] fun q4 M3 => lt_ck M3 q4 17 (lt_ck M3 q4 17 (lt_rf (mP M3 q4 18) fun q5 => lt_ck M3 q5 21 (lt_ck M3 q4 17 (lt_rf (mP M3 q4 19) fun q6 => lt_ck M3 q6 21 (f_X0_isAnywhere_4 (d + 1) M3 o0 x1 (x2 ||| (((mI M3 q4 5) ||| (mI M3 q5 0)) ||| (mI M3 q6 0))) (x3 + 1)))))))) else (lt_bi (f_X10_has d M x2 x1) [] fun v2 M1 => lt_b1 v2 (some (.inl (some (.int v2)), M1))) :=
  (lx_ev (d := d) (m := 2) (hs := [4]) 32 4 [.ref o0, .int x1, .int x2, .int x3, lt_j] [] M).symm
set_option maxRecDepth 100000 in
set_option maxHeartbeats 4000000 in
theorem e_X0_lapseAt (d : Nat) (M : LM) (o0 : Nat) (x1 : Int32) : f_X0_lapseAt (d + 1) M o0 x1 = f_X0_lapseAt_4 (d + 1) M o0 x1 0 0 :=
  (lx_ev (d := d) (m := 3) (hs := [4]) 21 0 [.ref o0, .int x1, lt_j, lt_j] [] M).symm
set_option maxRecDepth 100000 in
set_option maxHeartbeats 4000000 in
theorem e_X0_lapseAt_4 (d : Nat) (M : LM) (o0 : Nat) (x1 : Int32) (x2 : Int32) (x3 : Int32) : f_X0_lapseAt_4 (d + 1) M o0 x1 x2 x3 = if @LT.lt Int32 _ x3 6 then (lt_ck M o0 16 (lt_br (f_X0_cache d M o0 x3) [] fun q2 M1 => lt_ck M1 q2 17 (lt_bi (f_X1_lapseAt d M1 q2 x1) [] fun v4 M3 => f_X0_lapseAt_4 (d + 1) M3 o0 x1 (x2 + v4) (x3 + 1)))) else (some (.inl (some (.int x2)), M)) :=
  (lx_ev (d := d) (m := 3) (hs := [4]) 21 4 [.ref o0, .int x1, .int x2, .int x3] [] M).symm
set_option maxRecDepth 100000 in
set_option maxHeartbeats 4000000 in
theorem e_X0_ask (d : Nat) (M : LM) (o0 : Nat) (x1 : Int32) (x2 : Int32) : f_X0_ask (d + 1) M o0 x1 x2 = lt_ck M o0 16 (lt_rf (mP M o0 1) fun q1 => lt_ck M o0 16 (lt_ck M q1 20 (lt_bv (f_X4_append d M q1 x1 x2 (mI M o0 4)) [] fun M2 => f_X0_ask_18 (d + 1) M2 o0 0 0))) :=
  (lx_ev (d := d) (m := 4) (hs := [18]) 42 0 [.ref o0, .int x1, .int x2, lt_j, lt_j] [] M).symm
set_option maxRecDepth 100000 in
set_option maxHeartbeats 4000000 in
theorem e_X0_ask_18 (d : Nat) (M : LM) (o0 : Nat) (x3 : Int32) (x4 : Int32) : f_X0_ask_18 (d + 1) M o0 x3 x4 = if @LT.lt Int32 _ x4 6 then (lt_ck M o0 16 (lt_br (f_X0_cache d M o0 x4) [] fun q4 M3 => lt_ck M3 o0 16 (lt_rf (mP M3 o0 0) fun q5 => lt_ck M3 o0 16 (lt_rf (mP M3 o0 1) fun q6 => lt_ck M3 o0 16 (lt_rf (mP M3 o0 1) fun q7 => lt_ck M3 q7 20 (lt_ck M3 q4 17 (lt_bi (f_X1_feed d M3 q4 q5 q6 ((mI M3 q7 3) - 1)) [] fun v9 M8 => if @Eq Int32 v9 0 then (f_X0_ask_18 (d + 1) M8 o0 (x3 ||| 0) (x4 + 1)) else (f_X0_ask_18 (d + 1) M8 o0 (x3 ||| (1 <<< (x4 &&& 31))) (x4 + 1))))))))) else (some (.inl (some (.int x3)), M)) :=
  (lx_ev (d := d) (m := 4) (hs := [18]) 42 18 [.ref o0, lt_j, lt_j, .int x3, .int x4] [] M).symm
set_option maxRecDepth 100000 in
set_option maxHeartbeats 4000000 in
theorem e_X0_emptyCaches (d : Nat) (M : LM) (o0 : Nat) : f_X0_emptyCaches (d + 1) M o0 = f_X0_emptyCaches_2 (d + 1) M o0 0 :=
  (lx_ev (d := d) (m := 5) (hs := [2]) 15 0 [.ref o0, lt_j] [] M).symm
set_option maxRecDepth 100000 in
set_option maxHeartbeats 4000000 in
theorem e_X0_emptyCaches_2 (d : Nat) (M : LM) (o0 : Nat) (x1 : Int32) : f_X0_emptyCaches_2 (d + 1) M o0 x1 = if @LT.lt Int32 _ x1 6 then (lt_ck M o0 16 (lt_br (f_X0_cache d M o0 x1) [] fun q2 M1 => lt_ck M1 q2 17 (lt_bv (f_X1_empty d M1 q2 0) [] fun M3 => f_X0_emptyCaches_2 (d + 1) M3 o0 (x1 + 1)))) else (some (.inl none, M)) :=
  (lx_ev (d := d) (m := 5) (hs := [2]) 15 2 [.ref o0, .int x1] [] M).symm
set_option maxRecDepth 100000 in
set_option maxHeartbeats 4000000 in
theorem e_X0_feedAnew (d : Nat) (M : LM) (o0 : Nat) : f_X0_feedAnew (d + 1) M o0 = lt_ck M o0 16 (lt_bv (f_X0_emptyCaches d M o0) [] fun M1 => f_X0_feedAnew_8 (d + 1) M1 o0 0 0) :=
  (lx_ev (d := d) (m := 6) (hs := [8, 23]) 58 0 [.ref o0, lt_j, lt_j, lt_j, lt_j] [] M).symm
set_option maxRecDepth 100000 in
set_option maxHeartbeats 4000000 in
theorem e_X0_feedAnew_8 (d : Nat) (M : LM) (o0 : Nat) (x1 : Int32) (x2 : Int32) : f_X0_feedAnew_8 (d + 1) M o0 x1 x2 = if @LT.lt Int32 _ x2 6 then (lt_ck M o0 16 (lt_br (f_X0_cache d M o0 x2) [] fun q3 M2 => f_X0_feedAnew_23 (d + 1) M2 o0 x1 x2 q3 0)) else (some (.inl (some (.int x1)), M)) :=
  (lx_ev (d := d) (m := 6) (hs := [8, 23]) 58 8 [.ref o0, .int x1, .int x2, lt_j, lt_j] [] M).symm
set_option maxRecDepth 100000 in
set_option maxHeartbeats 4000000 in
theorem e_X0_feedAnew_23 (d : Nat) (M : LM) (o0 : Nat) (x1 : Int32) (x2 : Int32) (o3 : Nat) (x4 : Int32) : f_X0_feedAnew_23 (d + 1) M o0 x1 x2 o3 x4 = lt_ck M o0 16 (lt_rf (mP M o0 1) fun q4 => lt_ck M q4 20 (if @LT.lt Int32 _ x4 (mI M q4 3) then (if @LT.lt Int32 _ x4 300 then (lt_ck M o0 16 (lt_rf (mP M o0 1) fun q9 => lt_ck M q9 20 (lt_rf (mP M q9 2) fun q10 => lt_bi (f_X10_at d M q10 x4) [] fun v12 M11 => lt_ck M11 o3 17 (lt_bi (f_X1_lapseAt d M11 o3 v12) [] fun v14 M13 => lt_ck M13 o0 16 (lt_rf (mP M13 o0 0) fun q15 => lt_ck M13 o0 16 (lt_rf (mP M13 o0 1) fun q16 => lt_ck M13 o3 17 (lt_bi (f_X1_feed d M13 o3 q15 q16 x4) [] fun v18 M17 => if @Eq Int32 v18 0 then (f_X0_feedAnew_23 (d + 1) M17 o0 (x1 + 0) x2 o3 (x4 + 1)) else (f_X0_feedAnew_23 (d + 1) M17 o0 (x1 + 1) x2 o3 (x4 + 1))))))))) else (lt_ck M o0 16 (lt_ck M o3 17 (lt_bi (f_X1_lapseAt d M o3 (mI M o0 4)) [] fun v8 M7 => f_X0_feedAnew_8 (d + 1) M7 o0 x1 (x2 + 1))))) else (lt_ck M o0 16 (lt_ck M o3 17 (lt_bi (f_X1_lapseAt d M o3 (mI M o0 4)) [] fun v6 M5 => f_X0_feedAnew_8 (d + 1) M5 o0 x1 (x2 + 1)))))) :=
  (lx_ev (d := d) (m := 6) (hs := [8, 23]) 58 23 [.ref o0, .int x1, .int x2, .ref o3, .int x4] [] M).symm
set_option maxRecDepth 100000 in
set_option maxHeartbeats 4000000 in
theorem e_X0_copyBench (d : Nat) (M : LM) (o0 : Nat) (o1 : Nat) : f_X0_copyBench (d + 1) M o0 o1 = lt_ck M o0 16 (lt_rf (mP M o0 0) fun q1 => lt_ck M o1 16 (lt_rf (mP M o1 0) fun q2 => lt_ck M q1 19 (lt_bv (f_X3_copyKeys d M q1 q2) [] fun M3 => lt_ck M3 o0 16 (lt_rf (mP M3 o0 1) fun q4 => lt_ck M3 o1 16 (lt_rf (mP M3 o1 1) fun q5 => lt_ck M3 q4 20 (lt_bv (f_X4_copyRow d M3 q4 q5) [] fun M6 => f_X0_copyBench_24 (d + 1) M6 o0 o1 0)))))) :=
  (lx_ev (d := d) (m := 7) (hs := [24]) 31 0 [.ref o0, .ref o1, lt_j] [] M).symm
set_option maxRecDepth 100000 in
set_option maxHeartbeats 4000000 in
theorem e_X0_copyBench_24 (d : Nat) (M : LM) (o0 : Nat) (o1 : Nat) (x2 : Int32) : f_X0_copyBench_24 (d + 1) M o0 o1 x2 = if @LT.lt Int32 _ x2 6 then (lt_ck M o0 16 (lt_br (f_X0_cache d M o0 x2) [] fun q9 M8 => lt_ck M8 o1 16 (lt_br (f_X0_cache d M8 o1 x2) [] fun q11 M10 => lt_ck M10 q9 17 (lt_bv (f_X1_copyCache d M10 q9 q11) [] fun M12 => f_X0_copyBench_24 (d + 1) M12 o0 o1 (x2 + 1))))) else (lt_ck M o1 16 (lt_ck M o0 16 (lt_m (wI M o0 4 (mI M o1 4)) fun M7 => some (.inl none, M7)))) :=
  (lx_ev (d := d) (m := 7) (hs := [24]) 31 24 [.ref o0, .ref o1, .int x2] [] M).symm
set_option maxRecDepth 100000 in
set_option maxHeartbeats 4000000 in
theorem e_X1_init (d : Nat) (M : LM) (o0 : Nat) : f_X1_init (d + 1) M o0 = lt_ln 4 (lt_m (aNew M 1 (lt_n 4) (lt_n 4)) fun M1 => lt_ck M1 o0 17 (lt_m (wP M1 o0 4 (some (mN M))) fun M2 => lt_ln 26 (lt_m (aNew M2 1 (lt_n 26) (lt_n 26)) fun M3 => lt_ck M3 o0 17 (lt_m (wP M3 o0 13 (some (mN M2))) fun M4 => lt_ln 26 (lt_m (aNew M4 2 (lt_n 26) (lt_n 26)) fun M5 => lt_ck M5 o0 17 (lt_m (wP M5 o0 14 (some (mN M4))) fun M6 => lt_ln 26 (lt_m (aNew M6 2 (lt_n 26) (lt_n 26)) fun M7 => lt_ck M7 o0 17 (lt_m (wP M7 o0 15 (some (mN M6))) fun M8 => lt_ln 26 (lt_m (aNew M8 2 (lt_n 26) (lt_n 26)) fun M9 => lt_ck M9 o0 17 (lt_m (wP M9 o0 16 (some (mN M8))) fun M10 => lt_m (aNew M10 24 0 8) fun M11 => lt_bv (f_X8_init d M11 (mN M10)) [] fun M12 => lt_ck M12 o0 17 (lt_m (wP M12 o0 17 (some (mN M10))) fun M13 => lt_m (aNew M13 21 0 2) fun M14 => lt_bv (f_X5_init d M14 (mN M13)) [] fun M15 => lt_ck M15 o0 17 (lt_m (wP M15 o0 18 (some (mN M13))) fun M16 => lt_m (aNew M16 21 0 2) fun M17 => lt_bv (f_X5_init d M17 (mN M16)) [] fun M18 => lt_ck M18 o0 17 (lt_m (wP M18 o0 19 (some (mN M16))) fun M19 => some (.inl none, M19)))))))))))))) :=
  (lx_ev (d := d) (m := 8) (hs := []) 40 0 [.ref o0] [] M).symm
set_option maxRecDepth 100000 in
set_option maxHeartbeats 4000000 in
theorem e_X1_setUp (d : Nat) (M : LM) (o0 : Nat) (x1 : Int32) (x2 : Int32) (x3 : Int32) (x4 : Int32) : f_X1_setUp (d + 1) M o0 x1 x2 x3 x4 = lt_ck M o0 17 (lt_m (wI M o0 0 x1) fun M1 => lt_ck M1 o0 17 (lt_m (wI M1 o0 1 x2) fun M2 => lt_ck M2 o0 17 (lt_m (wI M2 o0 2 x3) fun M3 => lt_ck M3 o0 17 (lt_m (wI M3 o0 3 x4) fun M4 => lt_ck M4 o0 17 (lt_rf (mP M4 o0 4) fun q5 => lt_bv (f_J7_fill_53178 d M4 q5 0) [] fun M6 => some (.inl none, M6)))))) :=
  (lx_ev (d := d) (m := 9) (hs := []) 19 0 [.ref o0, .int x1, .int x2, .int x3, .int x4] [] M).symm
set_option maxRecDepth 100000 in
set_option maxHeartbeats 4000000 in
theorem e_X1_share (d : Nat) (M : LM) (o0 : Nat) (x1 : Int32) (x2 : Int32) (x3 : Int32) (x4 : Int32) : f_X1_share (d + 1) M o0 x1 x2 x3 x4 = lt_ck M o0 17 (lt_rf (mP M o0 4) fun q1 => lt_bv (f_X10_put d M q1 0 x1) [] fun M2 => lt_ck M2 o0 17 (lt_rf (mP M2 o0 4) fun q3 => lt_bv (f_X10_put d M2 q3 1 x2) [] fun M4 => lt_ck M4 o0 17 (lt_rf (mP M4 o0 4) fun q5 => lt_bv (f_X10_put d M4 q5 2 x3) [] fun M6 => lt_ck M6 o0 17 (lt_rf (mP M6 o0 4) fun q7 => lt_bv (f_X10_put d M6 q7 3 x4) [] fun M8 => some (.inl none, M8))))) :=
  (lx_ev (d := d) (m := 10) (hs := []) 23 0 [.ref o0, .int x1, .int x2, .int x3, .int x4] [] M).symm
set_option maxRecDepth 100000 in
set_option maxHeartbeats 4000000 in
theorem e_X1_empty (d : Nat) (M : LM) (o0 : Nat) (x1 : Int32) : f_X1_empty (d + 1) M o0 x1 = lt_ck M o0 17 (lt_m (wI M o0 5 0) fun M1 => lt_ck M1 o0 17 (lt_m (wI M1 o0 6 0) fun M2 => lt_ck M2 o0 17 (lt_m (wI M2 o0 7 0) fun M3 => lt_ck M3 o0 17 (lt_m (wI M3 o0 8 0) fun M4 => lt_ck M4 o0 17 (lt_m (wI M4 o0 9 0) fun M5 => lt_ck M5 o0 17 (lt_m (wI M5 o0 10 0) fun M6 => lt_ck M6 o0 17 (lt_m (wL M6 o0 11 0) fun M7 => lt_ck M7 o0 17 (lt_m (wI M7 o0 12 0) fun M8 => lt_ck M8 o0 17 (lt_rf (mP M8 o0 17) fun q9 => lt_ck M8 q9 24 (lt_bv (f_X8_start d M8 q9 x1) [] fun M10 => lt_ck M10 o0 17 (lt_rf (mP M10 o0 18) fun q11 => lt_ck M10 q11 21 (lt_bv (f_X5_start d M10 q11) [] fun M12 => lt_ck M12 o0 17 (lt_rf (mP M12 o0 19) fun q13 => lt_ck M12 q13 21 (lt_bv (f_X5_start d M12 q13) [] fun M14 => some (.inl none, M14))))))))))))))) :=
  (lx_ev (d := d) (m := 11) (hs := []) 37 0 [.ref o0, .int x1] [] M).symm
set_option maxRecDepth 100000 in
set_option maxHeartbeats 4000000 in
theorem e_X1_feed (d : Nat) (M : LM) (o0 : Nat) (o1 : Nat) (o2 : Nat) (x3 : Int32) : f_X1_feed (d + 1) M o0 o1 o2 x3 = lt_ck M o2 20 (lt_rf (mP M o2 0) fun q1 => lt_bi (f_X10_at d M q1 x3) [] fun v3 M2 => lt_ck M2 o2 20 (lt_rf (mP M2 o2 2) fun q4 => lt_bi (f_X10_at d M2 q4 x3) [] fun v6 M5 => lt_ck M5 o0 17 (lt_rf (mP M5 o0 17) fun q7 => lt_ck M5 q7 24 (lt_rf (mP M5 q7 4) fun q8 => lt_bl (f_X10_at_ d M5 q8 v3) [] fun v10 M9 => lt_ck M9 o0 17 (lt_rf (mP M9 o0 17) fun q11 => lt_ck M9 q11 24 (lt_bv (f_X8_noteAsked d M9 q11 x3 v3) [] fun M12 => lt_ck M12 o0 17 (lt_bi (f_X10_has d M12 (mI M12 o0 5) v3) [] fun v14 M13 => if @Eq Int32 v14 0 then (lt_ck M13 o1 19 (lt_rf (mP M13 o1 0) fun q16 => lt_bi (f_X10_at d M13 q16 v3) [] fun v18 M17 => lt_ck M17 o0 17 (if @LT.lt Int32 _ (mI M17 o0 1) v18 then (lt_ck M17 o0 17 (lt_rf (mP M17 o0 17) fun q20 => if @Eq Int32 v14 0 then (if @Eq Int32 1 0 then (f_X1_feed_110 (d + 1) M17 o0 o1 o2 x3 v3 v6 (Int64.toInt32 v10) v14 1 1 v3 x3 q20) else (f_X1_feed_110 (d + 1) M17 o0 o1 o2 x3 v3 v6 (Int64.toInt32 v10) v14 1 2 v3 x3 q20)) else (f_X1_feed_110 (d + 1) M17 o0 o1 o2 x3 v3 v6 (Int64.toInt32 v10) v14 1 0 v3 x3 q20))) else (lt_ck M17 o0 17 (lt_rf (mP M17 o0 17) fun q19 => if @Eq Int32 v14 0 then (if @Eq Int32 0 0 then (f_X1_feed_110 (d + 1) M17 o0 o1 o2 x3 v3 v6 (Int64.toInt32 v10) v14 0 1 v3 x3 q19) else (f_X1_feed_110 (d + 1) M17 o0 o1 o2 x3 v3 v6 (Int64.toInt32 v10) v14 0 2 v3 x3 q19)) else (f_X1_feed_110 (d + 1) M17 o0 o1 o2 x3 v3 v6 (Int64.toInt32 v10) v14 0 0 v3 x3 q19)))))) else (lt_ck M13 o0 17 (lt_rf (mP M13 o0 17) fun q15 => if @Eq Int32 v14 0 then (if @Eq Int32 0 0 then (f_X1_feed_110 (d + 1) M13 o0 o1 o2 x3 v3 v6 (Int64.toInt32 v10) v14 0 1 v3 x3 q15) else (f_X1_feed_110 (d + 1) M13 o0 o1 o2 x3 v3 v6 (Int64.toInt32 v10) v14 0 2 v3 x3 q15)) else (f_X1_feed_110 (d + 1) M13 o0 o1 o2 x3 v3 v6 (Int64.toInt32 v10) v14 0 0 v3 x3 q15)))))))))) :=
  (lx_ev (d := d) (m := 12) (hs := [110, 176, 195, 224, 226]) 167 0 [.ref o0, .ref o1, .ref o2, .int x3, lt_j, lt_j, lt_j, lt_j, lt_j, lt_j] [] M).symm
set_option maxRecDepth 100000 in
set_option maxHeartbeats 4000000 in
theorem e_X1_feed_110 (d : Nat) (M : LM) (o0 : Nat) (o1 : Nat) (o2 : Nat) (x3 : Int32) (x4 : Int32) (x5 : Int32) (x6 : Int32) (x7 : Int32) (x8 : Int32) (s0 : Int32) (s1 : Int32) (s2 : Int32) (s3 : Nat) : f_X1_feed_110 (d + 1) M o0 o1 o2 x3 x4 x5 x6 x7 x8 s0 s1 s2 s3 = lt_ck M s3 24 (lt_bv (f_X8_noteOutcome d M s3 s2 s1 s0) [] fun M21 => if @Eq Int32 x7 0 then (lt_ck M21 o0 17 (lt_rf (mP M21 o0 17) fun q22 => lt_ck M21 q22 24 (lt_rf (mP M21 q22 0) fun q23 => lt_ck M21 o1 19 (lt_rf (mP M21 o1 1) fun q24 => lt_bi (f_X10_at d M21 q24 x4) [] fun v26 M25 => lt_bv (f_X10_add d M25 q23 8 v26) [] fun M27 => if @Eq Int32 x7 0 then (if @Eq Int32 x8 0 then (lt_ck M27 o0 17 (lt_bv (f_X1_makeRoom d M27 o0 o1 x4 ((-1))) [] fun M28 => lt_ck M28 o0 17 (lt_bv (f_X1_comeIn d M28 o0 o1 x4 x5) [] fun M29 => f_X1_feed_176 (d + 1) M29 o0 o1 o2 x3 x4 x5 x6 x7))) else (f_X1_feed_176 (d + 1) M27 o0 o1 o2 x3 x4 x5 x6 x7)) else (f_X1_feed_176 (d + 1) M27 o0 o1 o2 x3 x4 x5 x6 x7))))) else (lt_ck M21 o0 17 (lt_bv (f_X1_meet d M21 o0 o1 x4) [] fun M30 => if @Eq Int32 x7 0 then (if @Eq Int32 x8 0 then (lt_ck M30 o0 17 (lt_bv (f_X1_makeRoom d M30 o0 o1 x4 ((-1))) [] fun M31 => lt_ck M31 o0 17 (lt_bv (f_X1_comeIn d M31 o0 o1 x4 x5) [] fun M32 => f_X1_feed_176 (d + 1) M32 o0 o1 o2 x3 x4 x5 x6 x7))) else (f_X1_feed_176 (d + 1) M30 o0 o1 o2 x3 x4 x5 x6 x7)) else (f_X1_feed_176 (d + 1) M30 o0 o1 o2 x3 x4 x5 x6 x7)))) :=
  (lx_ev (d := d) (m := 12) (hs := [110, 176, 195, 224, 226]) 167 110 [.ref o0, .ref o1, .ref o2, .int x3, .int x4, .int x5, .int x6, .int x7, .int x8, lt_j] [.int s0, .int s1, .int s2, .ref s3] M).symm
set_option maxRecDepth 100000 in
set_option maxHeartbeats 4000000 in
theorem e_X1_feed_176 (d : Nat) (M : LM) (o0 : Nat) (o1 : Nat) (o2 : Nat) (x3 : Int32) (x4 : Int32) (x5 : Int32) (x6 : Int32) (x7 : Int32) : f_X1_feed_176 (d + 1) M o0 o1 o2 x3 x4 x5 x6 x7 = lt_ck M o2 20 (lt_rf (mP M o2 1) fun q33 => lt_bi (f_X10_at d M q33 x3) [] fun v35 M34 => if @Eq Int32 v35 0 then (f_X1_feed_195 (d + 1) M34 o0 o1 o2 x4 x5 x6 x7) else (lt_ck M34 o0 17 (lt_bv (f_X1_writeTo d M34 o0 x4 x5) [] fun M36 => f_X1_feed_195 (d + 1) M36 o0 o1 o2 x4 x5 x6 x7))) :=
  (lx_ev (d := d) (m := 12) (hs := [110, 176, 195, 224, 226]) 167 176 [.ref o0, .ref o1, .ref o2, .int x3, .int x4, .int x5, .int x6, .int x7, lt_j, lt_j] [] M).symm
set_option maxRecDepth 100000 in
set_option maxHeartbeats 4000000 in
theorem e_X1_feed_195 (d : Nat) (M : LM) (o0 : Nat) (o1 : Nat) (o2 : Nat) (x4 : Int32) (x5 : Int32) (x6 : Int32) (x7 : Int32) : f_X1_feed_195 (d + 1) M o0 o1 o2 x4 x5 x6 x7 = lt_ck M o0 17 (if @Eq Int32 ((mI M o0 3) &&& 2) 0 then (f_X1_feed_224 (d + 1) M o0 o1 x4 x5 x7) else (if @Eq Int32 x6 ((-1)) then (f_X1_feed_224 (d + 1) M o0 o1 x4 x5 x7) else (lt_ck M o2 20 (lt_rf (mP M o2 0) fun q37 => lt_bi (f_X10_at d M q37 (x6 + 1)) [] fun v39 M38 => f_X1_feed_226 (d + 1) M38 o0 o1 x4 x5 x7 v39)))) :=
  (lx_ev (d := d) (m := 12) (hs := [110, 176, 195, 224, 226]) 167 195 [.ref o0, .ref o1, .ref o2, lt_j, .int x4, .int x5, .int x6, .int x7, lt_j, lt_j] [] M).symm
set_option maxRecDepth 100000 in
set_option maxHeartbeats 4000000 in
theorem e_X1_feed_224 (d : Nat) (M : LM) (o0 : Nat) (o1 : Nat) (x4 : Int32) (x5 : Int32) (x7 : Int32) : f_X1_feed_224 (d + 1) M o0 o1 x4 x5 x7 = f_X1_feed_226 (d + 1) M o0 o1 x4 x5 x7 x4 :=
  (lx_ev (d := d) (m := 12) (hs := [110, 176, 195, 224, 226]) 167 224 [.ref o0, .ref o1, lt_j, lt_j, .int x4, .int x5, lt_j, .int x7, lt_j, lt_j] [] M).symm
set_option maxRecDepth 100000 in
set_option maxHeartbeats 4000000 in
theorem e_X1_feed_226 (d : Nat) (M : LM) (o0 : Nat) (o1 : Nat) (x4 : Int32) (x5 : Int32) (x7 : Int32) (s0 : Int32) : f_X1_feed_226 (d + 1) M o0 o1 x4 x5 x7 s0 = lt_ck M o0 17 (lt_bi (f_X1_canFetch d M o0 o1 s0 x4) [] fun v41 M40 => if @Eq Int32 v41 0 then (lt_ck M40 o0 17 (if @Eq Int32 (mI M40 o0 0) 6 then (lt_ck M40 o0 17 (lt_rf (mP M40 o0 18) fun q42 => lt_ck M40 o0 17 (lt_ck M40 o0 17 (lt_rf (mP M40 o0 17) fun q43 => lt_ck M40 q43 24 (lt_rf (mP M40 q43 4) fun q44 => lt_ck M40 q42 21 (lt_bv (f_X5_feed d M40 q42 x4 o1 (mI M40 o0 1) q44) [] fun M45 => lt_ck M45 o0 17 (lt_rf (mP M45 o0 19) fun q46 => lt_ck M45 o0 17 (lt_ck M45 o0 17 (lt_rf (mP M45 o0 17) fun q47 => lt_ck M45 q47 24 (lt_rf (mP M45 q47 5) fun q48 => lt_ck M45 q46 21 (lt_bv (f_X5_feed d M45 q46 x4 o1 (mI M45 o0 1) q48) [] fun M49 => lt_b1 x7 (some (.inl (some (.int x7)), M49))))))))))))) else (lt_b1 x7 (some (.inl (some (.int x7)), M40))))) else (lt_ck M40 o0 17 (lt_bv (f_X1_makeRoom d M40 o0 o1 s0 x4) [] fun M50 => lt_ck M50 o0 17 (lt_bv (f_X1_comeIn d M50 o0 o1 s0 x5) [] fun M51 => lt_ck M51 o0 17 (lt_bi (f_X10_bit d M51 s0) [] fun v53 M52 => lt_ck M52 o0 17 (lt_m (wI M52 o0 9 ((mI M51 o0 9) ||| v53)) fun M54 => lt_ck M54 o0 17 (lt_rf (mP M54 o0 17) fun q55 => lt_ck M54 q55 24 (lt_rf (mP M54 q55 0) fun q56 => lt_bv (f_X10_add d M54 q56 6 1) [] fun M57 => lt_ck M57 o0 17 (if @Eq Int32 (mI M57 o0 0) 6 then (lt_ck M57 o0 17 (lt_rf (mP M57 o0 18) fun q58 => lt_ck M57 o0 17 (lt_ck M57 o0 17 (lt_rf (mP M57 o0 17) fun q59 => lt_ck M57 q59 24 (lt_rf (mP M57 q59 4) fun q60 => lt_ck M57 q58 21 (lt_bv (f_X5_feed d M57 q58 x4 o1 (mI M57 o0 1) q60) [] fun M61 => lt_ck M61 o0 17 (lt_rf (mP M61 o0 19) fun q62 => lt_ck M61 o0 17 (lt_ck M61 o0 17 (lt_rf (mP M61 o0 17) fun q63 => lt_ck M61 q63 24 (lt_rf (mP M61 q63 5) fun q64 => lt_ck M61 q62 21 (lt_bv (f_X5_feed d M61 q62 x4 o1 (mI M61 o0 1) q64) [] fun M65 => lt_b1 x7 (some (.inl (some (.int x7)), M65))))))))))))) else (lt_b1 x7 (some (.inl (some (.int x7)), M57)))))))))))) :=
  (lx_ev (d := d) (m := 12) (hs := [110, 176, 195, 224, 226]) 167 226 [.ref o0, .ref o1, lt_j, lt_j, .int x4, .int x5, lt_j, .int x7, lt_j, lt_j] [.int s0] M).symm
set_option maxRecDepth 100000 in
set_option maxHeartbeats 4000000 in
theorem e_X1_meet (d : Nat) (M : LM) (o0 : Nat) (o1 : Nat) (x2 : Int32) : f_X1_meet (d + 1) M o0 o1 x2 = lt_ck M o0 17 (lt_bi (f_X10_has d M (mI M o0 9) x2) [] fun v2 M1 => if @Eq Int32 v2 0 then (lt_ck M1 o0 17 (lt_bi (f_X10_bit d M1 x2) [] fun v4 M3 => lt_ck M3 o0 17 (lt_m (wI M3 o0 7 ((mI M1 o0 7) ||| v4)) fun M5 => lt_ck M5 o0 17 (lt_bv (f_X1_use d M5 o0 o1 x2) [] fun M6 => some (.inl none, M6))))) else (lt_ck M1 o0 17 (lt_bi (f_X10_bit d M1 x2) [] fun v8 M7 => lt_ck M7 o0 17 (lt_m (wI M7 o0 9 ((mI M1 o0 9) &&& (v8 ^^^ ((-1))))) fun M9 => lt_ck M9 o0 17 (lt_rf (mP M9 o0 17) fun q10 => lt_ck M9 q10 24 (lt_rf (mP M9 q10 0) fun q11 => lt_bv (f_X10_add d M9 q11 7 1) [] fun M12 => lt_ck M12 o0 17 (lt_bi (f_X10_bit d M12 x2) [] fun v14 M13 => lt_ck M13 o0 17 (lt_m (wI M13 o0 7 ((mI M12 o0 7) ||| v14)) fun M15 => lt_ck M15 o0 17 (lt_bv (f_X1_use d M15 o0 o1 x2) [] fun M16 => some (.inl none, M16)))))))))) :=
  (lx_ev (d := d) (m := 13) (hs := []) 34 0 [.ref o0, .ref o1, .int x2] [] M).symm
set_option maxRecDepth 100000 in
set_option maxHeartbeats 4000000 in
theorem e_X1_use (d : Nat) (M : LM) (o0 : Nat) (o1 : Nat) (x2 : Int32) : f_X1_use (d + 1) M o0 o1 x2 = lt_ck M o0 17 (lt_ck M o0 17 (lt_m (wI M o0 12 ((mI M o0 12) + 1)) fun M1 => lt_ck M1 o0 17 (lt_rf (mP M1 o0 14) fun q2 => lt_ck M1 o0 17 (lt_bv (f_X10_put_ d M1 q2 x2 (Int32.toInt64 (mI M1 o0 12))) [] fun M3 => lt_ck M3 o0 17 (lt_rf (mP M3 o0 16) fun q4 => lt_ck M3 o0 17 (lt_ck M3 o1 19 (lt_bi (f_X3_worthOf d M3 o1 x2) [] fun v6 M5 => lt_bv (f_X10_put_ d M5 q4 x2 ((mL M3 o0 11) + (Int32.toInt64 v6))) [] fun M7 => some (.inl none, M7)))))))) :=
  (lx_ev (d := d) (m := 14) (hs := []) 27 0 [.ref o0, .ref o1, .int x2] [] M).symm
set_option maxRecDepth 100000 in
set_option maxHeartbeats 4000000 in
theorem e_X1_comeIn (d : Nat) (M : LM) (o0 : Nat) (o1 : Nat) (x2 : Int32) (x3 : Int32) : f_X1_comeIn (d + 1) M o0 o1 x2 x3 = lt_ck M o0 17 (lt_bi (f_X10_bit d M x2) [] fun v2 M1 => lt_ck M1 o0 17 (lt_m (wI M1 o0 5 ((mI M o0 5) ||| v2)) fun M3 => lt_ck M3 o0 17 (lt_bi (f_X10_has d M3 (mI M3 o0 10) x2) [] fun v5 M4 => if @Eq Int32 v5 0 then (lt_ck M4 o0 17 (lt_rf (mP M4 o0 13) fun q6 => lt_bv (f_X10_put d M4 q6 x2 x3) [] fun M7 => lt_ck M7 o0 17 (lt_bv (f_X1_use d M7 o0 o1 x2) [] fun M8 => lt_ck M8 o0 17 (lt_rf (mP M8 o0 15) fun q9 => lt_ck M8 o0 17 (lt_bv (f_X10_put_ d M8 q9 x2 (Int32.toInt64 (mI M8 o0 12))) [] fun M10 => some (.inl none, M10)))))) else (lt_ck M4 o0 17 (lt_bi (f_X10_bit d M4 x2) [] fun v12 M11 => lt_ck M11 o0 17 (lt_m (wI M11 o0 10 ((mI M4 o0 10) &&& (v12 ^^^ ((-1))))) fun M13 => lt_ck M13 o0 17 (lt_bi (f_X10_bit d M13 x2) [] fun v15 M14 => lt_ck M14 o0 17 (lt_m (wI M14 o0 8 ((mI M13 o0 8) ||| v15)) fun M16 => lt_ck M16 o0 17 (lt_rf (mP M16 o0 13) fun q17 => lt_bv (f_X10_put d M16 q17 x2 x3) [] fun M18 => lt_ck M18 o0 17 (lt_bv (f_X1_use d M18 o0 o1 x2) [] fun M19 => lt_ck M19 o0 17 (lt_rf (mP M19 o0 15) fun q20 => lt_ck M19 o0 17 (lt_bv (f_X10_put_ d M19 q20 x2 (Int32.toInt64 (mI M19 o0 12))) [] fun M21 => some (.inl none, M21))))))))))))) :=
  (lx_ev (d := d) (m := 15) (hs := []) 47 0 [.ref o0, .ref o1, .int x2, .int x3] [] M).symm
set_option maxRecDepth 100000 in
set_option maxHeartbeats 4000000 in
theorem e_X1_writeTo (d : Nat) (M : LM) (o0 : Nat) (x1 : Int32) (x2 : Int32) : f_X1_writeTo (d + 1) M o0 x1 x2 = lt_ck M o0 17 (lt_bi (f_X10_has d M (mI M o0 5) x1) [] fun v2 M1 => if @Eq Int32 v2 0 then (f_X1_writeTo_22 (d + 1) M1 o0 x1 v2) else (lt_ck M1 o0 17 (lt_rf (mP M1 o0 13) fun q3 => lt_bv (f_X10_put d M1 q3 x1 x2) [] fun M4 => f_X1_writeTo_22 (d + 1) M4 o0 x1 v2))) :=
  (lx_ev (d := d) (m := 16) (hs := [22]) 36 0 [.ref o0, .int x1, .int x2, lt_j] [] M).symm
set_option maxRecDepth 100000 in
set_option maxHeartbeats 4000000 in
theorem e_X1_writeTo_22 (d : Nat) (M : LM) (o0 : Nat) (x1 : Int32) (x3 : Int32) : f_X1_writeTo_22 (d + 1) M o0 x1 x3 = if @Eq Int32 x3 0 then (lt_ck M o0 17 (lt_rf (mP M o0 17) fun q5 => lt_ck M q5 24 (lt_rf (mP M q5 0) fun q6 => lt_bv (f_X10_add d M q6 4 1) [] fun M7 => some (.inl none, M7)))) else (lt_ck M o0 17 (if @Eq Int32 ((mI M o0 3) &&& 1) 0 then (lt_ck M o0 17 (lt_rf (mP M o0 17) fun q8 => lt_ck M q8 24 (lt_rf (mP M q8 0) fun q9 => lt_bv (f_X10_add d M q9 4 1) [] fun M10 => some (.inl none, M10)))) else (lt_ck M o0 17 (lt_bi (f_X10_bit d M x1) [] fun v12 M11 => lt_ck M11 o0 17 (lt_m (wI M11 o0 6 ((mI M o0 6) ||| v12)) fun M13 => some (.inl none, M13)))))) :=
  (lx_ev (d := d) (m := 16) (hs := [22]) 36 22 [.ref o0, .int x1, lt_j, .int x3] [] M).symm
set_option maxRecDepth 100000 in
set_option maxHeartbeats 4000000 in
theorem e_X1_canFetch (d : Nat) (M : LM) (o0 : Nat) (o1 : Nat) (x2 : Int32) (x3 : Int32) : f_X1_canFetch (d + 1) M o0 o1 x2 x3 = lt_ck M o1 19 (lt_rf (mP M o1 0) fun q1 => lt_bi (f_X10_at d M q1 x2) [] fun v3 M2 => lt_ck M2 o0 17 (lt_bi (f_X10_has d M2 (mI M2 o0 5) x3) [] fun v5 M4 => if @Eq Int32 v5 0 then (f_X1_canFetch_31 (d + 1) M4 o0 x2 x3 0 v3) else (lt_ck M4 o1 19 (lt_rf (mP M4 o1 0) fun q6 => lt_bi (f_X10_at d M4 q6 x3) [] fun v8 M7 => f_X1_canFetch_31 (d + 1) M7 o0 x2 x3 v8 v3)))) :=
  (lx_ev (d := d) (m := 17) (hs := [31]) 35 0 [.ref o0, .ref o1, .int x2, .int x3, lt_j] [] M).symm
set_option maxRecDepth 100000 in
set_option maxHeartbeats 4000000 in
theorem e_X1_canFetch_31 (d : Nat) (M : LM) (o0 : Nat) (x2 : Int32) (x3 : Int32) (s0 : Int32) (s1 : Int32) : f_X1_canFetch_31 (d + 1) M o0 x2 x3 s0 s1 = if @Eq Int32 x2 x3 then (lt_b1 0 (some (.inl (some (.int 0)), M))) else (lt_ck M o0 17 (lt_bi (f_X10_has d M (mI M o0 5) x2) [] fun v10 M9 => if @Eq Int32 v10 0 then (lt_ck M9 o0 17 (if @LT.lt Int32 _ (mI M9 o0 1) (s1 + s0) then (lt_b1 0 (some (.inl (some (.int 0)), M9))) else (lt_b1 1 (some (.inl (some (.int 1)), M9))))) else (lt_b1 0 (some (.inl (some (.int 0)), M9))))) :=
  (lx_ev (d := d) (m := 17) (hs := [31]) 35 31 [.ref o0, lt_j, .int x2, .int x3, lt_j] [.int s0, .int s1] M).symm
set_option maxRecDepth 100000 in
set_option maxHeartbeats 4000000 in
theorem e_X1_makeRoom (d : Nat) (M : LM) (o0 : Nat) (o1 : Nat) (x2 : Int32) (x3 : Int32) : f_X1_makeRoom (d + 1) M o0 o1 x2 x3 = lt_ck M o1 19 (lt_rf (mP M o1 0) fun q1 => lt_bi (f_X10_at d M q1 x2) [] fun v3 M2 => f_X1_makeRoom_13 (d + 1) M2 o0 o1 x2 x3 v3 0) :=
  (lx_ev (d := d) (m := 18) (hs := [13]) 38 0 [.ref o0, .ref o1, .int x2, .int x3, lt_j, lt_j] [] M).symm
set_option maxRecDepth 100000 in
set_option maxHeartbeats 4000000 in
theorem e_X1_makeRoom_13 (d : Nat) (M : LM) (o0 : Nat) (o1 : Nat) (x2 : Int32) (x3 : Int32) (x4 : Int32) (x5 : Int32) : f_X1_makeRoom_13 (d + 1) M o0 o1 x2 x3 x4 x5 = if @LT.lt Int32 _ x5 26 then (lt_ck M o0 17 (lt_ck M o1 19 (lt_bi (f_X3_units d M o1 (mI M o0 5)) [] fun v5 M4 => lt_ck M4 o0 17 (if @LT.lt Int32 _ (mI M4 o0 1) (v5 + x4) then (lt_ck M4 o0 17 (lt_bi (f_X10_bit d M4 x3) [] fun v7 M6 => lt_ck M6 o0 17 (lt_bi (f_X1_canGo d M6 o0 o1 ((mI M4 o0 5) &&& (v7 ^^^ ((-1)))) x2) [] fun v9 M8 => lt_ck M8 o0 17 (lt_bv (f_X1_putOut d M8 o0 o1 v9) [] fun M10 => f_X1_makeRoom_13 (d + 1) M10 o0 o1 x2 x3 x4 (x5 + 1))))) else (some (.inl none, M4)))))) else (some (.inl none, M)) :=
  (lx_ev (d := d) (m := 18) (hs := [13]) 38 13 [.ref o0, .ref o1, .int x2, .int x3, .int x4, .int x5] [] M).symm
set_option maxRecDepth 100000 in
set_option maxHeartbeats 4000000 in
theorem e_X1_canGo (d : Nat) (M : LM) (o0 : Nat) (o1 : Nat) (x2 : Int32) (x3 : Int32) : f_X1_canGo (d + 1) M o0 o1 x2 x3 = lt_ck M o0 17 (lt_bi (f_X10_bit d M x3) [] fun v2 M1 => lt_ck M1 o0 17 (lt_bi (f_X1_ownersBeyond d M1 o0 o1 ((mI M o0 5) ||| v2)) [] fun v4 M3 => f_X1_canGo_22 (d + 1) M3 o1 x2 v4 0 0)) :=
  (lx_ev (d := d) (m := 19) (hs := [22]) 44 0 [.ref o0, .ref o1, .int x2, .int x3, lt_j, lt_j, lt_j] [] M).symm
set_option maxRecDepth 100000 in
set_option maxHeartbeats 4000000 in
theorem e_X1_canGo_22 (d : Nat) (M : LM) (o1 : Nat) (x2 : Int32) (x4 : Int32) (x5 : Int32) (x6 : Int32) : f_X1_canGo_22 (d + 1) M o1 x2 x4 x5 x6 = if @LT.lt Int32 _ x6 26 then (if @Eq Int32 x4 0 then (if @Eq Int32 x5 0 then (some (.inl (some (.int x2)), M)) else (some (.inl (some (.int x5)), M))) else (lt_ck M o1 19 (lt_rf (mP M o1 2) fun q5 => lt_bi (f_X10_at d M q5 x6) [] fun v7 M6 => if @Eq Int32 ((x4 >>> (v7 &&& 31)) &&& 1) 0 then (f_X1_canGo_22 (d + 1) M6 o1 x2 x4 x5 (x6 + 1)) else (lt_bi (f_X10_bit d M6 x6) [] fun v9 M8 => f_X1_canGo_22 (d + 1) M8 o1 x2 x4 (x5 ||| (x2 &&& v9)) (x6 + 1))))) else (if @Eq Int32 x5 0 then (some (.inl (some (.int x2)), M)) else (some (.inl (some (.int x5)), M))) :=
  (lx_ev (d := d) (m := 19) (hs := [22]) 44 22 [lt_j, .ref o1, .int x2, lt_j, .int x4, .int x5, .int x6] [] M).symm
set_option maxRecDepth 100000 in
set_option maxHeartbeats 4000000 in
theorem e_X1_hasShares (d : Nat) (M : LM) (o0 : Nat) : f_X1_hasShares (d + 1) M o0 = lt_ck M o0 17 (lt_rf (mP M o0 4) fun q1 => lt_bi (f_X10_at d M q1 0) [] fun v3 M2 => lt_ck M2 o0 17 (lt_rf (mP M2 o0 4) fun q4 => lt_bi (f_X10_at d M2 q4 1) [] fun v6 M5 => lt_ck M5 o0 17 (lt_rf (mP M5 o0 4) fun q7 => lt_bi (f_X10_at d M5 q7 2) [] fun v9 M8 => lt_ck M8 o0 17 (lt_rf (mP M8 o0 4) fun q10 => lt_bi (f_X10_at d M8 q10 3) [] fun v12 M11 => if @Eq Int32 (((v3 ||| v6) ||| v9) ||| v12) 0 then (lt_b1 0 (some (.inl (some (.int 0)), M11))) else (lt_b1 1 (some (.inl (some (.int 1)), M11))))))) :=
  (lx_ev (d := d) (m := 20) (hs := []) 26 0 [.ref o0] [] M).symm
set_option maxRecDepth 100000 in
set_option maxHeartbeats 4000000 in
theorem e_X1_ownersBeyond (d : Nat) (M : LM) (o0 : Nat) (o1 : Nat) (x2 : Int32) : f_X1_ownersBeyond (d + 1) M o0 o1 x2 = lt_ck M o0 17 (lt_bi (f_X1_hasShares d M o0) [] fun v2 M1 => if @Eq Int32 v2 0 then (some (.inl (some (.int 0)), M1)) else (f_X1_ownersBeyond_14 (d + 1) M1 o0 o1 x2 0 0)) :=
  (lx_ev (d := d) (m := 21) (hs := [14]) 38 0 [.ref o0, .ref o1, .int x2, lt_j, lt_j] [] M).symm
set_option maxRecDepth 100000 in
set_option maxHeartbeats 4000000 in
theorem e_X1_ownersBeyond_14 (d : Nat) (M : LM) (o0 : Nat) (o1 : Nat) (x2 : Int32) (x3 : Int32) (x4 : Int32) : f_X1_ownersBeyond_14 (d + 1) M o0 o1 x2 x3 x4 = lt_ck M o0 17 (lt_rf (mP M o0 4) fun q3 => lt_al M q3 (if @LT.lt Int32 _ x4 (nI (mZ M q3)) then (lt_ck M o1 19 (lt_bi (f_X3_ofOwner d M o1 x4) [] fun v5 M4 => lt_ck M4 o1 19 (lt_bi (f_X3_units d M4 o1 (x2 &&& v5)) [] fun v7 M6 => lt_ck M6 o0 17 (lt_rf (mP M6 o0 4) fun q8 => lt_ar M6 q8 1 x4 (if @LT.lt Int32 _ (mI M6 q8 (lt_n x4)) v7 then (f_X1_ownersBeyond_14 (d + 1) M6 o0 o1 x2 (x3 ||| (1 <<< (x4 &&& 31))) (x4 + 1)) else (f_X1_ownersBeyond_14 (d + 1) M6 o0 o1 x2 x3 (x4 + 1))))))) else (some (.inl (some (.int x3)), M)))) :=
  (lx_ev (d := d) (m := 21) (hs := [14]) 38 14 [.ref o0, .ref o1, .int x2, .int x3, .int x4] [] M).symm
set_option maxRecDepth 100000 in
set_option maxHeartbeats 4000000 in
theorem e_X1_putOut (d : Nat) (M : LM) (o0 : Nat) (o1 : Nat) (x2 : Int32) : f_X1_putOut (d + 1) M o0 o1 x2 = lt_ck M o0 17 (if @Eq Int32 (mI M o0 0) 3 then (lt_ck M o0 17 (lt_bv (f_X1_turnQueue d M o0 x2) [] fun M1 => f_X1_putOut_13 (d + 1) M1 o0 o1 x2)) else (f_X1_putOut_13 (d + 1) M o0 o1 x2)) :=
  (lx_ev (d := d) (m := 22) (hs := [13, 53]) 53 0 [.ref o0, .ref o1, .int x2, lt_j] [] M).symm
set_option maxRecDepth 100000 in
set_option maxHeartbeats 4000000 in
theorem e_X1_putOut_13 (d : Nat) (M : LM) (o0 : Nat) (o1 : Nat) (x2 : Int32) : f_X1_putOut_13 (d + 1) M o0 o1 x2 = lt_ck M o0 17 (lt_bi (f_X1_choose d M o0 o1 x2) [] fun v3 M2 => if @Eq Int32 v3 ((-1)) then (some (.inl none, M2)) else (lt_ck M2 o0 17 (if @Eq Int32 (mI M2 o0 0) 5 then (lt_ck M2 o0 17 (lt_ck M2 o0 17 (lt_rf (mP M2 o0 16) fun q4 => lt_bl (f_X10_at_ d M2 q4 v3) [] fun v6 M5 => lt_bl (f_J9_max_f86c9 d M5 (mL M2 o0 11) v6) [] fun v8 M7 => lt_ck M7 o0 17 (lt_m (wL M7 o0 11 v8) fun M9 => f_X1_putOut_53 (d + 1) M9 o0 v3)))) else (f_X1_putOut_53 (d + 1) M2 o0 v3)))) :=
  (lx_ev (d := d) (m := 22) (hs := [13, 53]) 53 13 [.ref o0, .ref o1, .int x2, lt_j] [] M).symm
set_option maxRecDepth 100000 in
set_option maxHeartbeats 4000000 in
theorem e_X1_putOut_53 (d : Nat) (M : LM) (o0 : Nat) (x3 : Int32) : f_X1_putOut_53 (d + 1) M o0 x3 = lt_ck M o0 17 (if @Eq Int32 (mI M o0 0) 4 then (lt_ck M o0 17 (lt_bi (f_X10_has d M (mI M o0 8) x3) [] fun v15 M14 => if @Eq Int32 v15 0 then (lt_ck M14 o0 17 (lt_bv (f_X1_remember d M14 o0 x3) [] fun M20 => lt_ck M20 o0 17 (lt_bv (f_X1_takeOut d M20 o0 x3) [] fun M21 => lt_ck M21 o0 17 (lt_rf (mP M21 o0 17) fun q22 => lt_ck M21 q22 24 (lt_rf (mP M21 q22 0) fun q23 => lt_bv (f_X10_add d M21 q23 2 1) [] fun M24 => some (.inl none, M24)))))) else (lt_ck M14 o0 17 (lt_bv (f_X1_takeOut d M14 o0 x3) [] fun M16 => lt_ck M16 o0 17 (lt_rf (mP M16 o0 17) fun q17 => lt_ck M16 q17 24 (lt_rf (mP M16 q17 0) fun q18 => lt_bv (f_X10_add d M16 q18 2 1) [] fun M19 => some (.inl none, M19))))))) else (lt_ck M o0 17 (lt_bv (f_X1_takeOut d M o0 x3) [] fun M10 => lt_ck M10 o0 17 (lt_rf (mP M10 o0 17) fun q11 => lt_ck M10 q11 24 (lt_rf (mP M10 q11 0) fun q12 => lt_bv (f_X10_add d M10 q12 2 1) [] fun M13 => some (.inl none, M13)))))) :=
  (lx_ev (d := d) (m := 22) (hs := [13, 53]) 53 53 [.ref o0, lt_j, lt_j, .int x3] [] M).symm
set_option maxRecDepth 100000 in
set_option maxHeartbeats 4000000 in
theorem e_X1_turnQueue (d : Nat) (M : LM) (o0 : Nat) (x1 : Int32) : f_X1_turnQueue (d + 1) M o0 x1 = f_X1_turnQueue_2 (d + 1) M o0 x1 0 :=
  (lx_ev (d := d) (m := 23) (hs := [2]) 60 0 [.ref o0, .int x1, lt_j, lt_j, lt_j] [] M).symm
set_option maxRecDepth 100000 in
set_option maxHeartbeats 4000000 in
theorem e_X1_turnQueue_2 (d : Nat) (M : LM) (o0 : Nat) (x1 : Int32) (x2 : Int32) : f_X1_turnQueue_2 (d + 1) M o0 x1 x2 = if @LT.lt Int32 _ x2 52 then (lt_ck M o0 17 (lt_ck M o0 17 (lt_rf (mP M o0 15) fun q1 => lt_bi (f_X10_least d M (mI M o0 5) q1) [] fun v3 M2 => lt_ck M2 o0 17 (lt_bi (f_X10_bit d M2 v3) [] fun v5 M4 => if @Eq Int32 ((x1 &&& ((mI M2 o0 7) ^^^ ((-1)))) &&& v5) 0 then (if @Eq Int32 0 0 then (if @Eq Int32 v3 ((-1)) then (some (.inl none, M4)) else (lt_ck M4 o0 17 (lt_bi (f_X10_bit d M4 v3) [] fun v7 M6 => lt_ck M6 o0 17 (lt_m (wI M6 o0 7 ((mI M4 o0 7) &&& ((x1 &&& v7) ^^^ ((-1))))) fun M8 => lt_ck M8 o0 17 (lt_ck M8 o0 17 (lt_m (wI M8 o0 12 ((mI M8 o0 12) + 1)) fun M9 => lt_ck M9 o0 17 (lt_rf (mP M9 o0 15) fun q10 => lt_ck M9 o0 17 (lt_bv (f_X10_put_ d M9 q10 v3 (Int32.toInt64 (mI M9 o0 12))) [] fun M11 => f_X1_turnQueue_2 (d + 1) M11 o0 x1 (x2 + 1))))))))) else (some (.inl none, M4))) else (if @Eq Int32 1 0 then (if @Eq Int32 v3 ((-1)) then (some (.inl none, M4)) else (lt_ck M4 o0 17 (lt_bi (f_X10_bit d M4 v3) [] fun v13 M12 => lt_ck M12 o0 17 (lt_m (wI M12 o0 7 ((mI M4 o0 7) &&& ((x1 &&& v13) ^^^ ((-1))))) fun M14 => lt_ck M14 o0 17 (lt_ck M14 o0 17 (lt_m (wI M14 o0 12 ((mI M14 o0 12) + 1)) fun M15 => lt_ck M15 o0 17 (lt_rf (mP M15 o0 15) fun q16 => lt_ck M15 o0 17 (lt_bv (f_X10_put_ d M15 q16 v3 (Int32.toInt64 (mI M15 o0 12))) [] fun M17 => f_X1_turnQueue_2 (d + 1) M17 o0 x1 (x2 + 1))))))))) else (some (.inl none, M4))))))) else (some (.inl none, M)) :=
  (lx_ev (d := d) (m := 23) (hs := [2]) 60 2 [.ref o0, .int x1, .int x2, lt_j, lt_j] [] M).symm
set_option maxRecDepth 100000 in
set_option maxHeartbeats 4000000 in
theorem e_X1_choose (d : Nat) (M : LM) (o0 : Nat) (o1 : Nat) (x2 : Int32) : f_X1_choose (d + 1) M o0 o1 x2 = lt_ck M o0 17 (if Int32.toInt (mI M o0 0) = 1 then (lt_ck M o0 17 (lt_rf (mP M o0 17) fun q1 => lt_ck M q1 24 (lt_rf (mP M q1 5) fun q2 => lt_bi (f_X10_least d M x2 q2) [] fun v4 M3 => some (.inl (some (.int v4)), M3)))) else if Int32.toInt (mI M o0 0) = 2 then (lt_ck M o0 17 (lt_rf (mP M o0 15) fun q5 => lt_bi (f_X10_least d M x2 q5) [] fun v7 M6 => some (.inl (some (.int v7)), M6))) else if Int32.toInt (mI M o0 0) = 3 then (lt_ck M o0 17 (if @Eq Int32 (x2 &&& ((mI M o0 7) ^^^ ((-1)))) 0 then (lt_ck M o0 17 (lt_rf (mP M o0 15) fun q8 => lt_bi (f_X10_least d M x2 q8) [] fun v10 M9 => some (.inl (some (.int v10)), M9))) else (lt_ck M o0 17 (lt_rf (mP M o0 15) fun q11 => lt_bi (f_X10_least d M (x2 &&& ((mI M o0 7) ^^^ ((-1)))) q11) [] fun v13 M12 => some (.inl (some (.int v13)), M12))))) else if Int32.toInt (mI M o0 0) = 4 then (lt_ck M o0 17 (lt_ck M o0 17 (lt_ck M o0 17 (lt_ck M o0 17 (lt_ck M o1 19 (lt_bi (f_X3_units d M o1 ((mI M o0 5) &&& ((mI M o0 8) ^^^ ((-1))))) [] fun v15 M14 => lt_ck M14 o0 17 (lt_nz 4 (lt_bi (f_J9_max_7cf53 d M14 1 ((mI M14 o0 1) / 4)) [] fun v17 M16 => if @LT.lt Int32 _ v17 v15 then (if @Eq Int32 (x2 &&& ((mI M o0 8) ^^^ ((-1)))) 0 then (lt_ck M16 o0 17 (lt_rf (mP M16 o0 14) fun q30 => lt_bi (f_X10_least d M16 (x2 &&& (mI M o0 8)) q30) [] fun v32 M31 => some (.inl (some (.int v32)), M31))) else (if @Eq Int32 1 0 then (if @Eq Int32 (x2 &&& (mI M o0 8)) 0 then (lt_ck M16 o0 17 (lt_rf (mP M16 o0 15) fun q39 => lt_bi (f_X10_least d M16 (x2 &&& ((mI M o0 8) ^^^ ((-1)))) q39) [] fun v41 M40 => some (.inl (some (.int v41)), M40))) else (lt_ck M16 o0 17 (lt_rf (mP M16 o0 14) fun q36 => lt_bi (f_X10_least d M16 (x2 &&& (mI M o0 8)) q36) [] fun v38 M37 => some (.inl (some (.int v38)), M37)))) else (lt_ck M16 o0 17 (lt_rf (mP M16 o0 15) fun q33 => lt_bi (f_X10_least d M16 (x2 &&& ((mI M o0 8) ^^^ ((-1)))) q33) [] fun v35 M34 => some (.inl (some (.int v35)), M34))))) else (if @Eq Int32 (x2 &&& ((mI M o0 8) ^^^ ((-1)))) 0 then (lt_ck M16 o0 17 (lt_rf (mP M16 o0 14) fun q18 => lt_bi (f_X10_least d M16 (x2 &&& (mI M o0 8)) q18) [] fun v20 M19 => some (.inl (some (.int v20)), M19))) else (if @Eq Int32 0 0 then (if @Eq Int32 (x2 &&& (mI M o0 8)) 0 then (lt_ck M16 o0 17 (lt_rf (mP M16 o0 15) fun q27 => lt_bi (f_X10_least d M16 (x2 &&& ((mI M o0 8) ^^^ ((-1)))) q27) [] fun v29 M28 => some (.inl (some (.int v29)), M28))) else (lt_ck M16 o0 17 (lt_rf (mP M16 o0 14) fun q24 => lt_bi (f_X10_least d M16 (x2 &&& (mI M o0 8)) q24) [] fun v26 M25 => some (.inl (some (.int v26)), M25)))) else (lt_ck M16 o0 17 (lt_rf (mP M16 o0 15) fun q21 => lt_bi (f_X10_least d M16 (x2 &&& ((mI M o0 8) ^^^ ((-1)))) q21) [] fun v23 M22 => some (.inl (some (.int v23)), M22))))))))))))) else if Int32.toInt (mI M o0 0) = 5 then (lt_ck M o0 17 (lt_rf (mP M o0 16) fun q42 => lt_bi (f_X10_least d M x2 q42) [] fun v44 M43 => some (.inl (some (.int v44)), M43))) else if Int32.toInt (mI M o0 0) = 6 then (lt_ck M o0 17 (lt_bi (f_X1_leansToLastUse d M o0) [] fun v46 M45 => if @Eq Int32 v46 0 then (lt_ck M45 o0 17 (lt_rf (mP M45 o0 17) fun q47 => lt_ck M45 q47 24 (lt_rf (mP M45 q47 5) fun q48 => lt_bi (f_X10_least d M45 x2 q48) [] fun v50 M49 => some (.inl (some (.int v50)), M49)))) else (lt_ck M45 o0 17 (lt_rf (mP M45 o0 14) fun q51 => lt_bi (f_X10_least d M45 x2 q51) [] fun v53 M52 => some (.inl (some (.int v53)), M52))))) else (lt_ck M o0 17 (lt_rf (mP M o0 14) fun q54 => lt_bi (f_X10_least d M x2 q54) [] fun v56 M55 => some (.inl (some (.int v56)), M55)))) :=
  (lx_ev (d := d) (m := 24) (hs := []) 102 0 [.ref o0, .ref o1, .int x2, lt_j, lt_j, lt_j, lt_j] [] M).symm
set_option maxRecDepth 100000 in
set_option maxHeartbeats 4000000 in
theorem e_X1_remember (d : Nat) (M : LM) (o0 : Nat) (x1 : Int32) : f_X1_remember (d + 1) M o0 x1 = lt_ck M o0 17 (lt_bi (f_X10_bit d M x1) [] fun v2 M1 => lt_ck M1 o0 17 (lt_m (wI M1 o0 10 ((mI M o0 10) ||| v2)) fun M3 => lt_ck M3 o0 17 (lt_ck M3 o0 17 (lt_m (wI M3 o0 12 ((mI M3 o0 12) + 1)) fun M4 => lt_ck M4 o0 17 (lt_rf (mP M4 o0 15) fun q5 => lt_ck M4 o0 17 (lt_bv (f_X10_put_ d M4 q5 x1 (Int32.toInt64 (mI M4 o0 12))) [] fun M6 => lt_ck M6 o0 17 (lt_bi (f_J6_bitCount_0f7a4 d M6 (mI M6 o0 10)) [] fun v8 M7 => lt_ck M7 o0 17 (if @LT.lt Int32 _ (mI M7 o0 1) v8 then (lt_ck M7 o0 17 (lt_ck M7 o0 17 (lt_ck M7 o0 17 (lt_rf (mP M7 o0 15) fun q9 => lt_bi (f_X10_least d M7 (mI M7 o0 10) q9) [] fun v11 M10 => lt_bi (f_X10_bit d M10 v11) [] fun v13 M12 => lt_ck M12 o0 17 (lt_m (wI M12 o0 10 ((mI M7 o0 10) &&& (v13 ^^^ ((-1))))) fun M14 => some (.inl none, M14)))))) else (some (.inl none, M7)))))))))) :=
  (lx_ev (d := d) (m := 25) (hs := []) 42 0 [.ref o0, .int x1] [] M).symm
set_option maxRecDepth 100000 in
set_option maxHeartbeats 4000000 in
theorem e_X1_takeOut (d : Nat) (M : LM) (o0 : Nat) (x1 : Int32) : f_X1_takeOut (d + 1) M o0 x1 = lt_ck M o0 17 (lt_bi (f_X10_has d M (mI M o0 6) x1) [] fun v2 M1 => if @Eq Int32 v2 0 then (f_X1_takeOut_23 (d + 1) M1 o0 x1) else (lt_ck M1 o0 17 (lt_rf (mP M1 o0 17) fun q3 => lt_ck M1 q3 24 (lt_rf (mP M1 q3 0) fun q4 => lt_bv (f_X10_add d M1 q4 4 1) [] fun M5 => f_X1_takeOut_23 (d + 1) M5 o0 x1)))) :=
  (lx_ev (d := d) (m := 26) (hs := [23]) 49 0 [.ref o0, .int x1, lt_j] [] M).symm
set_option maxRecDepth 100000 in
set_option maxHeartbeats 4000000 in
theorem e_X1_takeOut_23 (d : Nat) (M : LM) (o0 : Nat) (x1 : Int32) : f_X1_takeOut_23 (d + 1) M o0 x1 = lt_bi (f_X10_bit d M x1) [] fun v7 M6 => lt_ck M6 o0 17 (lt_ck M6 o0 17 (lt_m (wI M6 o0 5 ((mI M6 o0 5) &&& (v7 ^^^ ((-1))))) fun M8 => lt_ck M8 o0 17 (lt_ck M8 o0 17 (lt_m (wI M8 o0 6 ((mI M8 o0 6) &&& (v7 ^^^ ((-1))))) fun M9 => lt_ck M9 o0 17 (lt_ck M9 o0 17 (lt_m (wI M9 o0 7 ((mI M9 o0 7) &&& (v7 ^^^ ((-1))))) fun M10 => lt_ck M10 o0 17 (lt_ck M10 o0 17 (lt_m (wI M10 o0 8 ((mI M10 o0 8) &&& (v7 ^^^ ((-1))))) fun M11 => lt_ck M11 o0 17 (lt_ck M11 o0 17 (lt_m (wI M11 o0 9 ((mI M11 o0 9) &&& (v7 ^^^ ((-1))))) fun M12 => some (.inl none, M12))))))))))) :=
  (lx_ev (d := d) (m := 26) (hs := [23]) 49 23 [.ref o0, .int x1, lt_j] [] M).symm
set_option maxRecDepth 100000 in
set_option maxHeartbeats 4000000 in
theorem e_X1_lapseAt (d : Nat) (M : LM) (o0 : Nat) (x1 : Int32) : f_X1_lapseAt (d + 1) M o0 x1 = f_X1_lapseAt_4 (d + 1) M o0 x1 0 0 :=
  (lx_ev (d := d) (m := 27) (hs := [4]) 40 0 [.ref o0, .int x1, lt_j, lt_j] [] M).symm
set_option maxRecDepth 100000 in
set_option maxHeartbeats 4000000 in
theorem e_X1_lapseAt_4 (d : Nat) (M : LM) (o0 : Nat) (x1 : Int32) (x2 : Int32) (x3 : Int32) : f_X1_lapseAt_4 (d + 1) M o0 x1 x2 x3 = if @LT.lt Int32 _ x3 26 then (lt_ck M o0 17 (if @LT.lt Int32 _ 0 (mI M o0 2) then (lt_ck M o0 17 (lt_bi (f_X10_has d M (mI M o0 5) x3) [] fun v8 M7 => if @Eq Int32 v8 0 then (f_X1_lapseAt_4 (d + 1) M7 o0 x1 x2 (x3 + 1)) else (lt_ck M7 o0 17 (lt_rf (mP M7 o0 13) fun q9 => lt_bi (f_X10_at d M7 q9 x3) [] fun v11 M10 => lt_ck M10 o0 17 (if @LT.lt Int32 _ (x1 - v11) (mI M10 o0 2) then (f_X1_lapseAt_4 (d + 1) M10 o0 x1 x2 (x3 + 1)) else (lt_ck M10 o0 17 (lt_bv (f_X1_takeOut d M10 o0 x3) [] fun M12 => f_X1_lapseAt_4 (d + 1) M12 o0 x1 (x2 + 1) (x3 + 1)))))))) else (lt_ck M o0 17 (lt_rf (mP M o0 17) fun q4 => lt_ck M q4 24 (lt_rf (mP M q4 0) fun q5 => lt_bv (f_X10_add d M q5 3 x2) [] fun M6 => some (.inl (some (.int x2)), M6)))))) else (lt_ck M o0 17 (lt_rf (mP M o0 17) fun q1 => lt_ck M q1 24 (lt_rf (mP M q1 0) fun q2 => lt_bv (f_X10_add d M q2 3 x2) [] fun M3 => some (.inl (some (.int x2)), M3)))) :=
  (lx_ev (d := d) (m := 27) (hs := [4]) 40 4 [.ref o0, .int x1, .int x2, .int x3] [] M).symm
set_option maxRecDepth 100000 in
set_option maxHeartbeats 4000000 in
theorem e_X1_writeDirty (d : Nat) (M : LM) (o0 : Nat) : f_X1_writeDirty (d + 1) M o0 = lt_ck M o0 17 (lt_bi (f_J6_bitCount_0f7a4 d M (mI M o0 6)) [] fun v2 M1 => lt_ck M1 o0 17 (lt_m (wI M1 o0 6 0) fun M3 => lt_ck M3 o0 17 (lt_rf (mP M3 o0 17) fun q4 => lt_ck M3 q4 24 (lt_rf (mP M3 q4 0) fun q5 => lt_bv (f_X10_add d M3 q5 4 v2) [] fun M6 => some (.inl (some (.int v2)), M6))))) :=
  (lx_ev (d := d) (m := 28) (hs := []) 17 0 [.ref o0, lt_j] [] M).symm
set_option maxRecDepth 100000 in
set_option maxHeartbeats 4000000 in
theorem e_X1_leansToLastUse (d : Nat) (M : LM) (o0 : Nat) : f_X1_leansToLastUse (d + 1) M o0 = lt_ck M o0 17 (lt_rf (mP M o0 18) fun q1 => lt_ck M q1 21 (lt_ck M o0 17 (lt_rf (mP M o0 19) fun q2 => lt_ck M q2 21 (if @LT.lt Int32 _ (mI M q2 1) (mI M q1 1) then (lt_b1 0 (some (.inl (some (.int 0)), M))) else (lt_b1 1 (some (.inl (some (.int 1)), M))))))) :=
  (lx_ev (d := d) (m := 29) (hs := []) 13 0 [.ref o0] [] M).symm
set_option maxRecDepth 100000 in
set_option maxHeartbeats 4000000 in
theorem e_X1_firstOutFor (d : Nat) (M : LM) (o0 : Nat) (o1 : Nat) (x2 : Int32) : f_X1_firstOutFor (d + 1) M o0 o1 x2 = lt_ck M o1 19 (lt_rf (mP M o1 0) fun q1 => lt_bi (f_X10_at d M q1 x2) [] fun v3 M2 => lt_ck M2 o0 17 (lt_ck M2 o1 19 (lt_bi (f_X3_units d M2 o1 (mI M2 o0 5)) [] fun v5 M4 => lt_ck M4 o0 17 (if @LT.lt Int32 _ (mI M4 o0 1) (v5 + v3) then (f_X1_firstOutFor_31 (d + 1) M4 o0 o1 x2 v3 0) else (f_X1_firstOutFor_31 (d + 1) M4 o0 o1 x2 v3 1))))) :=
  (lx_ev (d := d) (m := 30) (hs := [31]) 43 0 [.ref o0, .ref o1, .int x2, lt_j, lt_j] [] M).symm
set_option maxRecDepth 100000 in
set_option maxHeartbeats 4000000 in
theorem e_X1_firstOutFor_31 (d : Nat) (M : LM) (o0 : Nat) (o1 : Nat) (x2 : Int32) (x3 : Int32) (s0 : Int32) : f_X1_firstOutFor_31 (d + 1) M o0 o1 x2 x3 s0 = lt_ck M o0 17 (lt_bi (f_X10_has d M (mI M o0 5) x2) [] fun v7 M6 => if @Eq Int32 v7 0 then (lt_ck M6 o0 17 (if @LT.lt Int32 _ (mI M6 o0 1) x3 then (some (.inl (some (.int ((-1)))), M6)) else (if @Eq Int32 s0 0 then (lt_ck M6 o0 17 (lt_ck M6 o0 17 (lt_bi (f_X1_canGo d M6 o0 o1 (mI M6 o0 5) x2) [] fun v9 M8 => lt_ck M8 o0 17 (lt_bi (f_X1_choose d M8 o0 o1 v9) [] fun v11 M10 => some (.inl (some (.int v11)), M10))))) else (some (.inl (some (.int ((-1)))), M6))))) else (some (.inl (some (.int ((-1)))), M6))) :=
  (lx_ev (d := d) (m := 30) (hs := [31]) 43 31 [.ref o0, .ref o1, .int x2, .int x3, lt_j] [.int s0] M).symm
set_option maxRecDepth 100000 in
set_option maxHeartbeats 4000000 in
theorem e_X1_firstOf (d : Nat) (M : LM) (o0 : Nat) (x1 : Int32) : f_X1_firstOf (d + 1) M o0 x1 = lt_ck M o0 17 (if Int32.toInt (mI M o0 0) = 1 then (lt_ck M o0 17 (lt_rf (mP M o0 17) fun q1 => lt_ck M q1 24 (lt_rf (mP M q1 5) fun q2 => lt_bi (f_X10_least d M x1 q2) [] fun v4 M3 => some (.inl (some (.int v4)), M3)))) else if Int32.toInt (mI M o0 0) = 2 then (lt_ck M o0 17 (lt_rf (mP M o0 15) fun q5 => lt_bi (f_X10_least d M x1 q5) [] fun v7 M6 => some (.inl (some (.int v7)), M6))) else if Int32.toInt (mI M o0 0) = 3 then (lt_ck M o0 17 (lt_rf (mP M o0 15) fun q8 => lt_bi (f_X10_least d M x1 q8) [] fun v10 M9 => some (.inl (some (.int v10)), M9))) else if Int32.toInt (mI M o0 0) = 4 then (lt_ck M o0 17 (if @Eq Int32 (x1 &&& ((mI M o0 8) ^^^ ((-1)))) 0 then (lt_ck M o0 17 (lt_rf (mP M o0 14) fun q11 => lt_bi (f_X10_least d M x1 q11) [] fun v13 M12 => some (.inl (some (.int v13)), M12))) else (lt_ck M o0 17 (lt_rf (mP M o0 15) fun q14 => lt_bi (f_X10_least d M (x1 &&& ((mI M o0 8) ^^^ ((-1)))) q14) [] fun v16 M15 => some (.inl (some (.int v16)), M15))))) else if Int32.toInt (mI M o0 0) = 5 then (lt_ck M o0 17 (lt_rf (mP M o0 16) fun q17 => lt_bi (f_X10_least d M x1 q17) [] fun v19 M18 => some (.inl (some (.int v19)), M18))) else (lt_ck M o0 17 (lt_rf (mP M o0 14) fun q20 => lt_bi (f_X10_least d M x1 q20) [] fun v22 M21 => some (.inl (some (.int v22)), M21)))) :=
  (lx_ev (d := d) (m := 31) (hs := []) 45 0 [.ref o0, .int x1, lt_j] [] M).symm
set_option maxRecDepth 100000 in
set_option maxHeartbeats 4000000 in
theorem e_X1_copyCache (d : Nat) (M : LM) (o0 : Nat) (o1 : Nat) : f_X1_copyCache (d + 1) M o0 o1 = lt_ck M o1 17 (lt_ck M o0 17 (lt_m (wI M o0 0 (mI M o1 0)) fun M1 => lt_ck M1 o1 17 (lt_ck M1 o0 17 (lt_m (wI M1 o0 1 (mI M1 o1 1)) fun M2 => lt_ck M2 o1 17 (lt_ck M2 o0 17 (lt_m (wI M2 o0 2 (mI M2 o1 2)) fun M3 => lt_ck M3 o1 17 (lt_ck M3 o0 17 (lt_m (wI M3 o0 3 (mI M3 o1 3)) fun M4 => lt_ck M4 o1 17 (lt_rf (mP M4 o1 4) fun q5 => lt_ck M4 o0 17 (lt_rf (mP M4 o0 4) fun q6 => lt_bv (f_X10_copy d M4 q5 q6) [] fun M7 => lt_ck M7 o1 17 (lt_ck M7 o0 17 (lt_m (wI M7 o0 5 (mI M7 o1 5)) fun M8 => lt_ck M8 o1 17 (lt_ck M8 o0 17 (lt_m (wI M8 o0 6 (mI M8 o1 6)) fun M9 => lt_ck M9 o1 17 (lt_ck M9 o0 17 (lt_m (wI M9 o0 7 (mI M9 o1 7)) fun M10 => lt_ck M10 o1 17 (lt_ck M10 o0 17 (lt_m (wI M10 o0 8 (mI M10 o1 8)) fun M11 => lt_ck M11 o1 17 (lt_ck M11 o0 17 (lt_m (wI M11 o0 9 (mI M11 o1 9)) fun M12 => lt_ck M12 o1 17 (lt_ck M12 o0 17 (lt_m (wI M12 o0 10 (mI M12 o1 10)) fun M13 => lt_ck M13 o1 17 (lt_ck M13 o0 17 (lt_m (wL M13 o0 11 (mL M13 o1 11)) fun M14 => lt_ck M14 o1 17 (lt_ck M14 o0 17 (lt_m (wI M14 o0 12 (mI M14 o1 12)) fun M15 => lt_ck M15 o1 17 (lt_rf (mP M15 o1 13) fun q16 => lt_ck M15 o0 17 (lt_rf (mP M15 o0 13) fun q17 => lt_bv (f_X10_copy d M15 q16 q17) [] fun M18 => lt_ck M18 o1 17 (lt_rf (mP M18 o1 14) fun q19 => lt_ck M18 o0 17 (lt_rf (mP M18 o0 14) fun q20 => lt_bv (f_X10_copy_ d M18 q19 q20) [] fun M21 => lt_ck M21 o1 17 (lt_rf (mP M21 o1 15) fun q22 => lt_ck M21 o0 17 (lt_rf (mP M21 o0 15) fun q23 => lt_bv (f_X10_copy_ d M21 q22 q23) [] fun M24 => lt_ck M24 o1 17 (lt_rf (mP M24 o1 16) fun q25 => lt_ck M24 o0 17 (lt_rf (mP M24 o0 16) fun q26 => lt_bv (f_X10_copy_ d M24 q25 q26) [] fun M27 => lt_ck M27 o0 17 (lt_rf (mP M27 o0 17) fun q28 => lt_ck M27 o1 17 (lt_rf (mP M27 o1 17) fun q29 => lt_ck M27 q28 24 (lt_bv (f_X8_copyTally d M27 q28 q29) [] fun M30 => lt_ck M30 o0 17 (lt_rf (mP M30 o0 18) fun q31 => lt_ck M30 o1 17 (lt_rf (mP M30 o1 18) fun q32 => lt_ck M30 q31 21 (lt_bv (f_X5_copyShadow d M30 q31 q32) [] fun M33 => lt_ck M33 o0 17 (lt_rf (mP M33 o0 19) fun q34 => lt_ck M33 o1 17 (lt_rf (mP M33 o1 19) fun q35 => lt_ck M33 q34 21 (lt_bv (f_X5_copyShadow d M33 q34 q35) [] fun M36 => some (.inl none, M36)))))))))))))))))))))))))))))))))))))))))))) :=
  (lx_ev (d := d) (m := 32) (hs := []) 91 0 [.ref o0, .ref o1] [] M).symm
set_option maxRecDepth 100000 in
set_option maxHeartbeats 4000000 in
theorem e_X2_init (d : Nat) (M : LM) (o0 : Nat) : f_X2_init (d + 1) M o0 = lt_ln 26 (lt_m (aNew M 1 (lt_n 26) (lt_n 26)) fun M1 => lt_ck M1 o0 18 (lt_m (wP M1 o0 5 (some (mN M))) fun M2 => some (.inl none, M2))) :=
  (lx_ev (d := d) (m := 33) (hs := []) 9 0 [.ref o0] [] M).symm
set_option maxRecDepth 100000 in
set_option maxHeartbeats 4000000 in
theorem e_X2_close (d : Nat) (M : LM) (o0 : Nat) : f_X2_close (d + 1) M o0 = lt_ck M o0 18 (lt_b1 0 (lt_m (wI M o0 0 0) fun M1 => lt_ck M1 o0 18 (lt_b1 0 (lt_m (wI M1 o0 1 0) fun M2 => some (.inl none, M2))))) :=
  (lx_ev (d := d) (m := 34) (hs := []) 9 0 [.ref o0] [] M).symm
set_option maxRecDepth 100000 in
set_option maxHeartbeats 4000000 in
theorem e_X3_init (d : Nat) (M : LM) (o0 : Nat) : f_X3_init (d + 1) M o0 = lt_ln 26 (lt_m (aNew M 1 (lt_n 26) (lt_n 26)) fun M1 => lt_ck M1 o0 19 (lt_m (wP M1 o0 0 (some (mN M))) fun M2 => lt_ln 26 (lt_m (aNew M2 1 (lt_n 26) (lt_n 26)) fun M3 => lt_ck M3 o0 19 (lt_m (wP M3 o0 1 (some (mN M2))) fun M4 => lt_ln 26 (lt_m (aNew M4 1 (lt_n 26) (lt_n 26)) fun M5 => lt_ck M5 o0 19 (lt_m (wP M5 o0 2 (some (mN M4))) fun M6 => lt_ck M6 o0 19 (lt_rf (mP M6 o0 0) fun q7 => lt_bv (f_J7_fill_53178 d M6 q7 1) [] fun M8 => lt_ck M8 o0 19 (lt_rf (mP M8 o0 1) fun q9 => lt_bv (f_J7_fill_53178 d M8 q9 1) [] fun M10 => some (.inl none, M10))))))))) :=
  (lx_ev (d := d) (m := 35) (hs := []) 25 0 [.ref o0] [] M).symm
set_option maxRecDepth 100000 in
set_option maxHeartbeats 4000000 in
theorem e_X3_tell (d : Nat) (M : LM) (o0 : Nat) (x1 : Int32) (x2 : Int32) (x3 : Int32) (x4 : Int32) : f_X3_tell (d + 1) M o0 x1 x2 x3 x4 = lt_ck M o0 19 (lt_rf (mP M o0 0) fun q1 => lt_bi (f_X10_at d M q1 x1) [] fun v3 M2 => lt_ck M2 o0 19 (lt_rf (mP M2 o0 0) fun q4 => lt_bv (f_X10_put d M2 q4 x1 x2) [] fun M5 => lt_ck M5 o0 19 (lt_rf (mP M5 o0 1) fun q6 => lt_bv (f_X10_put d M5 q6 x1 x3) [] fun M7 => lt_ck M7 o0 19 (lt_rf (mP M7 o0 2) fun q8 => lt_bv (f_X10_put d M7 q8 x1 x4) [] fun M9 => some (.inl (some (.int v3)), M9))))) :=
  (lx_ev (d := d) (m := 36) (hs := []) 24 0 [.ref o0, .int x1, .int x2, .int x3, .int x4, lt_j] [] M).symm
set_option maxRecDepth 100000 in
set_option maxHeartbeats 4000000 in
theorem e_X3_units (d : Nat) (M : LM) (o0 : Nat) (x1 : Int32) : f_X3_units (d + 1) M o0 x1 = f_X3_units_4 (d + 1) M o0 x1 0 0 :=
  (lx_ev (d := d) (m := 37) (hs := [4]) 28 0 [.ref o0, .int x1, lt_j, lt_j] [] M).symm
set_option maxRecDepth 100000 in
set_option maxHeartbeats 4000000 in
theorem e_X3_units_4 (d : Nat) (M : LM) (o0 : Nat) (x1 : Int32) (x2 : Int32) (x3 : Int32) : f_X3_units_4 (d + 1) M o0 x1 x2 x3 = lt_ck M o0 19 (lt_rf (mP M o0 0) fun q1 => lt_al M q1 (if @LT.lt Int32 _ x3 (nI (mZ M q1)) then (if @Eq Int32 ((x1 >>> (x3 &&& 31)) &&& 1) 0 then (f_X3_units_4 (d + 1) M o0 x1 x2 (x3 + 1)) else (lt_ck M o0 19 (lt_rf (mP M o0 0) fun q2 => lt_ar M q2 1 x3 (f_X3_units_4 (d + 1) M o0 x1 (x2 + (mI M q2 (lt_n x3))) (x3 + 1))))) else (some (.inl (some (.int x2)), M)))) :=
  (lx_ev (d := d) (m := 37) (hs := [4]) 28 4 [.ref o0, .int x1, .int x2, .int x3] [] M).symm
set_option maxRecDepth 100000 in
set_option maxHeartbeats 4000000 in
theorem e_X3_ofOwner (d : Nat) (M : LM) (o0 : Nat) (x1 : Int32) : f_X3_ofOwner (d + 1) M o0 x1 = f_X3_ofOwner_4 (d + 1) M o0 x1 0 0 :=
  (lx_ev (d := d) (m := 38) (hs := [4]) 27 0 [.ref o0, .int x1, lt_j, lt_j] [] M).symm
set_option maxRecDepth 100000 in
set_option maxHeartbeats 4000000 in
theorem e_X3_ofOwner_4 (d : Nat) (M : LM) (o0 : Nat) (x1 : Int32) (x2 : Int32) (x3 : Int32) : f_X3_ofOwner_4 (d + 1) M o0 x1 x2 x3 = lt_ck M o0 19 (lt_rf (mP M o0 2) fun q1 => lt_al M q1 (if @LT.lt Int32 _ x3 (nI (mZ M q1)) then (lt_ck M o0 19 (lt_rf (mP M o0 2) fun q2 => lt_ar M q2 1 x3 (if @Eq Int32 (mI M q2 (lt_n x3)) x1 then (f_X3_ofOwner_4 (d + 1) M o0 x1 (x2 ||| (1 <<< (x3 &&& 31))) (x3 + 1)) else (f_X3_ofOwner_4 (d + 1) M o0 x1 x2 (x3 + 1))))) else (some (.inl (some (.int x2)), M)))) :=
  (lx_ev (d := d) (m := 38) (hs := [4]) 27 4 [.ref o0, .int x1, .int x2, .int x3] [] M).symm
set_option maxRecDepth 100000 in
set_option maxHeartbeats 4000000 in
theorem e_X3_worthOf (d : Nat) (M : LM) (o0 : Nat) (x1 : Int32) : f_X3_worthOf (d + 1) M o0 x1 = lt_ck M o0 19 (lt_rf (mP M o0 0) fun q1 => lt_bi (f_X10_at d M q1 x1) [] fun v3 M2 => if @LT.lt Int32 _ 0 v3 then (lt_ck M2 o0 19 (lt_rf (mP M2 o0 1) fun q4 => lt_bi (f_X10_at d M2 q4 x1) [] fun v6 M5 => lt_nz v3 (some (.inl (some (.int ((840 * v6) / v3))), M5)))) else (some (.inl (some (.int 0)), M2))) :=
  (lx_ev (d := d) (m := 39) (hs := []) 20 0 [.ref o0, .int x1, lt_j] [] M).symm
set_option maxRecDepth 100000 in
set_option maxHeartbeats 4000000 in
theorem e_X3_copyKeys (d : Nat) (M : LM) (o0 : Nat) (o1 : Nat) : f_X3_copyKeys (d + 1) M o0 o1 = lt_ck M o1 19 (lt_rf (mP M o1 0) fun q1 => lt_ck M o0 19 (lt_rf (mP M o0 0) fun q2 => lt_bv (f_X10_copy d M q1 q2) [] fun M3 => lt_ck M3 o1 19 (lt_rf (mP M3 o1 1) fun q4 => lt_ck M3 o0 19 (lt_rf (mP M3 o0 1) fun q5 => lt_bv (f_X10_copy d M3 q4 q5) [] fun M6 => lt_ck M6 o1 19 (lt_rf (mP M6 o1 2) fun q7 => lt_ck M6 o0 19 (lt_rf (mP M6 o0 2) fun q8 => lt_bv (f_X10_copy d M6 q7 q8) [] fun M9 => some (.inl none, M9))))))) :=
  (lx_ev (d := d) (m := 40) (hs := []) 18 0 [.ref o0, .ref o1] [] M).symm
set_option maxRecDepth 100000 in
set_option maxHeartbeats 4000000 in
theorem e_X4_init (d : Nat) (M : LM) (o0 : Nat) : f_X4_init (d + 1) M o0 = lt_ln 300 (lt_m (aNew M 1 (lt_n 300) (lt_n 300)) fun M1 => lt_ck M1 o0 20 (lt_m (wP M1 o0 0 (some (mN M))) fun M2 => lt_ln 300 (lt_m (aNew M2 1 (lt_n 300) (lt_n 300)) fun M3 => lt_ck M3 o0 20 (lt_m (wP M3 o0 1 (some (mN M2))) fun M4 => lt_ln 300 (lt_m (aNew M4 1 (lt_n 300) (lt_n 300)) fun M5 => lt_ck M5 o0 20 (lt_m (wP M5 o0 2 (some (mN M4))) fun M6 => some (.inl none, M6))))))) :=
  (lx_ev (d := d) (m := 41) (hs := []) 17 0 [.ref o0] [] M).symm
set_option maxRecDepth 100000 in
set_option maxHeartbeats 4000000 in
theorem e_X4_append (d : Nat) (M : LM) (o0 : Nat) (x1 : Int32) (x2 : Int32) (x3 : Int32) : f_X4_append (d + 1) M o0 x1 x2 x3 = lt_ck M o0 20 (lt_rf (mP M o0 0) fun q1 => lt_ck M o0 20 (lt_bv (f_X10_put d M q1 (mI M o0 3) x1) [] fun M2 => lt_ck M2 o0 20 (lt_rf (mP M2 o0 1) fun q3 => lt_ck M2 o0 20 (if @Eq Int32 x2 0 then (lt_bv (f_X10_put d M2 q3 (mI M2 o0 3) 0) [] fun M4 => lt_ck M4 o0 20 (lt_rf (mP M4 o0 2) fun q5 => lt_ck M4 o0 20 (lt_bv (f_X10_put d M4 q5 (mI M4 o0 3) x3) [] fun M6 => lt_ck M6 o0 20 (lt_bi (f_J9_min_7cf53 d M6 ((mI M6 o0 3) + 1) 300) [] fun v8 M7 => lt_ck M7 o0 20 (lt_m (wI M7 o0 3 v8) fun M9 => some (.inl none, M9)))))) else (lt_bv (f_X10_put d M2 q3 (mI M2 o0 3) 1) [] fun M10 => lt_ck M10 o0 20 (lt_rf (mP M10 o0 2) fun q11 => lt_ck M10 o0 20 (lt_bv (f_X10_put d M10 q11 (mI M10 o0 3) x3) [] fun M12 => lt_ck M12 o0 20 (lt_bi (f_J9_min_7cf53 d M12 ((mI M12 o0 3) + 1) 300) [] fun v14 M13 => lt_ck M13 o0 20 (lt_m (wI M13 o0 3 v14) fun M15 => some (.inl none, M15)))))))))) :=
  (lx_ev (d := d) (m := 42) (hs := []) 33 0 [.ref o0, .int x1, .int x2, .int x3] [] M).symm
set_option maxRecDepth 100000 in
set_option maxHeartbeats 4000000 in
theorem e_X4_timesAsked (d : Nat) (M : LM) (o0 : Nat) (x1 : Int32) : f_X4_timesAsked (d + 1) M o0 x1 = f_X4_timesAsked_4 (d + 1) M o0 x1 0 0 :=
  (lx_ev (d := d) (m := 43) (hs := [4]) 26 0 [.ref o0, .int x1, lt_j, lt_j] [] M).symm
set_option maxRecDepth 100000 in
set_option maxHeartbeats 4000000 in
theorem e_X4_timesAsked_4 (d : Nat) (M : LM) (o0 : Nat) (x1 : Int32) (x2 : Int32) (x3 : Int32) : f_X4_timesAsked_4 (d + 1) M o0 x1 x2 x3 = lt_ck M o0 20 (if @LT.lt Int32 _ x3 (mI M o0 3) then (lt_ck M o0 20 (lt_rf (mP M o0 0) fun q1 => lt_al M q1 (if @LT.lt Int32 _ x3 (nI (mZ M q1)) then (lt_ck M o0 20 (lt_rf (mP M o0 0) fun q2 => lt_ar M q2 1 x3 (if @Eq Int32 (mI M q2 (lt_n x3)) x1 then (f_X4_timesAsked_4 (d + 1) M o0 x1 (x2 + 1) (x3 + 1)) else (f_X4_timesAsked_4 (d + 1) M o0 x1 x2 (x3 + 1))))) else (some (.inl (some (.int x2)), M))))) else (some (.inl (some (.int x2)), M))) :=
  (lx_ev (d := d) (m := 43) (hs := [4]) 26 4 [.ref o0, .int x1, .int x2, .int x3] [] M).symm
set_option maxRecDepth 100000 in
set_option maxHeartbeats 4000000 in
theorem e_X4_distanceOf (d : Nat) (M : LM) (o0 : Nat) (x1 : Int32) : f_X4_distanceOf (d + 1) M o0 x1 = lt_ck M o0 20 (lt_rf (mP M o0 0) fun q1 => lt_bi (f_X10_at d M q1 x1) [] fun v3 M2 => f_X4_distanceOf_16 (d + 1) M2 o0 v3 0 (x1 - 1)) :=
  (lx_ev (d := d) (m := 44) (hs := [16]) 37 0 [.ref o0, .int x1, lt_j, lt_j, lt_j, lt_j] [] M).symm
set_option maxRecDepth 100000 in
set_option maxHeartbeats 4000000 in
theorem e_X4_distanceOf_16 (d : Nat) (M : LM) (o0 : Nat) (x2 : Int32) (x3 : Int32) (x4 : Int32) : f_X4_distanceOf_16 (d + 1) M o0 x2 x3 x4 = if @LT.lt Int32 _ x4 0 then (some (.inl (some (.int ((-1)))), M)) else (lt_ck M o0 20 (lt_rf (mP M o0 0) fun q4 => lt_bi (f_X10_at d M q4 x4) [] fun v6 M5 => if @Eq Int32 v6 x2 then (lt_bi (f_J6_bitCount_0f7a4 d M5 x3) [] fun v10 M9 => some (.inl (some (.int (1 + v10))), M9)) else (lt_bi (f_X10_bit d M5 v6) [] fun v8 M7 => f_X4_distanceOf_16 (d + 1) M7 o0 x2 (x3 ||| v8) (x4 + (-1))))) :=
  (lx_ev (d := d) (m := 44) (hs := [16]) 37 16 [.ref o0, lt_j, .int x2, .int x3, .int x4, lt_j] [] M).symm
set_option maxRecDepth 100000 in
set_option maxHeartbeats 4000000 in
theorem e_X4_phasesUpTo (d : Nat) (M : LM) (o0 : Nat) (x1 : Int32) (x2 : Int32) : f_X4_phasesUpTo (d + 1) M o0 x1 x2 = f_X4_phasesUpTo_8 (d + 1) M o0 x1 x2 0 0 0 :=
  (lx_ev (d := d) (m := 45) (hs := [8, 52, 57]) 56 0 [.ref o0, .int x1, .int x2, lt_j, lt_j, lt_j, lt_j, lt_j] [] M).symm
set_option maxRecDepth 100000 in
set_option maxHeartbeats 4000000 in
theorem e_X4_phasesUpTo_8 (d : Nat) (M : LM) (o0 : Nat) (x1 : Int32) (x2 : Int32) (x3 : Int32) (x4 : Int32) (x5 : Int32) : f_X4_phasesUpTo_8 (d + 1) M o0 x1 x2 x3 x4 x5 = if @LT.lt Int32 _ x5 x2 then (lt_ck M o0 20 (lt_rf (mP M o0 0) fun q1 => lt_al M q1 (if @LT.lt Int32 _ x5 (nI (mZ M q1)) then (lt_ck M o0 20 (lt_rf (mP M o0 0) fun q2 => lt_ar M q2 1 x5 (lt_bi (f_X10_bit d M (mI M q2 (lt_n x5))) [] fun v4 M3 => if @Eq Int32 x3 0 then (f_X4_phasesUpTo_52 (d + 1) M3 o0 x1 x2 x3 x5 (x4 ||| v4)) else (lt_bi (f_J6_bitCount_0f7a4 d M3 (x4 ||| v4)) [] fun v6 M5 => if @LT.lt Int32 _ x1 v6 then (f_X4_phasesUpTo_52 (d + 1) M5 o0 x1 x2 x3 x5 (x4 ||| v4)) else (f_X4_phasesUpTo_57 (d + 1) M5 o0 x1 x2 x3 x5 (x4 ||| v4) 0))))) else (some (.inl (some (.int x3)), M))))) else (some (.inl (some (.int x3)), M)) :=
  (lx_ev (d := d) (m := 45) (hs := [8, 52, 57]) 56 8 [.ref o0, .int x1, .int x2, .int x3, .int x4, .int x5, lt_j, lt_j] [] M).symm
set_option maxRecDepth 100000 in
set_option maxHeartbeats 4000000 in
theorem e_X4_phasesUpTo_52 (d : Nat) (M : LM) (o0 : Nat) (x1 : Int32) (x2 : Int32) (x3 : Int32) (x5 : Int32) (x6 : Int32) : f_X4_phasesUpTo_52 (d + 1) M o0 x1 x2 x3 x5 x6 = f_X4_phasesUpTo_57 (d + 1) M o0 x1 x2 x3 x5 x6 1 :=
  (lx_ev (d := d) (m := 45) (hs := [8, 52, 57]) 56 52 [.ref o0, .int x1, .int x2, .int x3, lt_j, .int x5, .int x6, lt_j] [] M).symm
set_option maxRecDepth 100000 in
set_option maxHeartbeats 4000000 in
theorem e_X4_phasesUpTo_57 (d : Nat) (M : LM) (o0 : Nat) (x1 : Int32) (x2 : Int32) (x3 : Int32) (x5 : Int32) (x6 : Int32) (s0 : Int32) : f_X4_phasesUpTo_57 (d + 1) M o0 x1 x2 x3 x5 x6 s0 = if @Eq Int32 s0 0 then (if @Eq Int32 s0 0 then (f_X4_phasesUpTo_8 (d + 1) M o0 x1 x2 (x3 + 0) x6 (x5 + 1)) else (f_X4_phasesUpTo_8 (d + 1) M o0 x1 x2 (x3 + 1) x6 (x5 + 1))) else (lt_ck M o0 20 (lt_rf (mP M o0 0) fun q7 => lt_ar M q7 1 x5 (lt_bi (f_X10_bit d M (mI M q7 (lt_n x5))) [] fun v9 M8 => if @Eq Int32 s0 0 then (f_X4_phasesUpTo_8 (d + 1) M8 o0 x1 x2 (x3 + 0) v9 (x5 + 1)) else (f_X4_phasesUpTo_8 (d + 1) M8 o0 x1 x2 (x3 + 1) v9 (x5 + 1))))) :=
  (lx_ev (d := d) (m := 45) (hs := [8, 52, 57]) 56 57 [.ref o0, .int x1, .int x2, .int x3, lt_j, .int x5, .int x6, lt_j] [.int s0] M).symm
set_option maxRecDepth 100000 in
set_option maxHeartbeats 4000000 in
theorem e_X4_copyRow (d : Nat) (M : LM) (o0 : Nat) (o1 : Nat) : f_X4_copyRow (d + 1) M o0 o1 = lt_ck M o1 20 (lt_rf (mP M o1 0) fun q1 => lt_ck M o0 20 (lt_rf (mP M o0 0) fun q2 => lt_bv (f_X10_copy d M q1 q2) [] fun M3 => lt_ck M3 o1 20 (lt_rf (mP M3 o1 1) fun q4 => lt_ck M3 o0 20 (lt_rf (mP M3 o0 1) fun q5 => lt_bv (f_X10_copy d M3 q4 q5) [] fun M6 => lt_ck M6 o1 20 (lt_rf (mP M6 o1 2) fun q7 => lt_ck M6 o0 20 (lt_rf (mP M6 o0 2) fun q8 => lt_bv (f_X10_copy d M6 q7 q8) [] fun M9 => lt_ck M9 o1 20 (lt_ck M9 o0 20 (lt_m (wI M9 o0 3 (mI M9 o1 3)) fun M10 => some (.inl none, M10))))))))) :=
  (lx_ev (d := d) (m := 46) (hs := []) 22 0 [.ref o0, .ref o1] [] M).symm
set_option maxRecDepth 100000 in
set_option maxHeartbeats 4000000 in
theorem e_X5_init (d : Nat) (M : LM) (o0 : Nat) : f_X5_init (d + 1) M o0 = some (.inl none, M) :=
  (lx_ev (d := d) (m := 47) (hs := []) 5 0 [.ref o0] [] M).symm
set_option maxRecDepth 100000 in
set_option maxHeartbeats 4000000 in
theorem e_X5_start (d : Nat) (M : LM) (o0 : Nat) : f_X5_start (d + 1) M o0 = lt_ck M o0 21 (lt_m (wI M o0 0 0) fun M1 => lt_ck M1 o0 21 (lt_m (wI M1 o0 1 0) fun M2 => some (.inl none, M2))) :=
  (lx_ev (d := d) (m := 48) (hs := []) 9 0 [.ref o0] [] M).symm
set_option maxRecDepth 100000 in
set_option maxHeartbeats 4000000 in
theorem e_X5_feed (d : Nat) (M : LM) (o0 : Nat) (x1 : Int32) (o2 : Nat) (x3 : Int32) (o4 : Nat) : f_X5_feed (d + 1) M o0 x1 o2 x3 o4 = lt_ck M o0 21 (lt_bi (f_X10_has d M (mI M o0 0) x1) [] fun v2 M1 => if @Eq Int32 v2 0 then (lt_ck M1 o0 21 (lt_ck M1 o0 21 (lt_m (wI M1 o0 1 ((mI M1 o0 1) + 1)) fun M3 => lt_ck M3 o2 19 (lt_rf (mP M3 o2 0) fun q4 => lt_bi (f_X10_at d M3 q4 x1) [] fun v6 M5 => if @LT.lt Int32 _ x3 v6 then (some (.inl none, M5)) else (f_X5_feed_42 (d + 1) M5 o0 x1 o2 x3 o4 v6 0))))) else (some (.inl none, M1))) :=
  (lx_ev (d := d) (m := 49) (hs := [42]) 58 0 [.ref o0, .int x1, .ref o2, .int x3, .ref o4, lt_j, lt_j] [] M).symm
set_option maxRecDepth 100000 in
set_option maxHeartbeats 4000000 in
theorem e_X5_feed_42 (d : Nat) (M : LM) (o0 : Nat) (x1 : Int32) (o2 : Nat) (x3 : Int32) (o4 : Nat) (x5 : Int32) (x6 : Int32) : f_X5_feed_42 (d + 1) M o0 x1 o2 x3 o4 x5 x6 = if @LT.lt Int32 _ x6 26 then (lt_ck M o0 21 (lt_ck M o2 19 (lt_bi (f_X3_units d M o2 (mI M o0 0)) [] fun v11 M10 => if @LT.lt Int32 _ x3 (v11 + x5) then (lt_ck M10 o0 21 (lt_ck M10 o0 21 (lt_bi (f_X10_least d M10 (mI M10 o0 0) o4) [] fun v16 M15 => lt_bi (f_X10_bit d M15 v16) [] fun v18 M17 => lt_ck M17 o0 21 (lt_m (wI M17 o0 0 ((mI M10 o0 0) &&& (v18 ^^^ ((-1))))) fun M19 => f_X5_feed_42 (d + 1) M19 o0 x1 o2 x3 o4 x5 (x6 + 1))))) else (lt_ck M10 o0 21 (lt_bi (f_X10_bit d M10 x1) [] fun v13 M12 => lt_ck M12 o0 21 (lt_m (wI M12 o0 0 ((mI M10 o0 0) ||| v13)) fun M14 => some (.inl none, M14))))))) else (lt_ck M o0 21 (lt_bi (f_X10_bit d M x1) [] fun v8 M7 => lt_ck M7 o0 21 (lt_m (wI M7 o0 0 ((mI M o0 0) ||| v8)) fun M9 => some (.inl none, M9)))) :=
  (lx_ev (d := d) (m := 49) (hs := [42]) 58 42 [.ref o0, .int x1, .ref o2, .int x3, .ref o4, .int x5, .int x6] [] M).symm
set_option maxRecDepth 100000 in
set_option maxHeartbeats 4000000 in
theorem e_X5_copyShadow (d : Nat) (M : LM) (o0 : Nat) (o1 : Nat) : f_X5_copyShadow (d + 1) M o0 o1 = lt_ck M o1 21 (lt_ck M o0 21 (lt_m (wI M o0 0 (mI M o1 0)) fun M1 => lt_ck M1 o1 21 (lt_ck M1 o0 21 (lt_m (wI M1 o0 1 (mI M1 o1 1)) fun M2 => some (.inl none, M2))))) :=
  (lx_ev (d := d) (m := 50) (hs := []) 11 0 [.ref o0, .ref o1] [] M).symm
set_option maxRecDepth 100000 in
set_option maxHeartbeats 4000000 in
theorem e_X6_init (d : Nat) (M : LM) (o0 : Nat) : f_X6_init (d + 1) M o0 = lt_ln 12 (lt_m (aNew M 1 (lt_n 12) (lt_n 12)) fun M1 => lt_ck M1 o0 22 (lt_m (wP M1 o0 0 (some (mN M))) fun M2 => lt_ck M2 o0 22 (lt_m (wI M2 o0 1 ((-1))) fun M3 => lt_ln 1200 (lt_m (aNew M3 2 (lt_n 1200) (lt_n 1200)) fun M4 => lt_ck M4 o0 22 (lt_m (wP M4 o0 7 (some (mN M3))) fun M5 => lt_ln 1200 (lt_m (aNew M5 1 (lt_n 1200) (lt_n 1200)) fun M6 => lt_ck M6 o0 22 (lt_m (wP M6 o0 8 (some (mN M5))) fun M7 => lt_ln 1200 (lt_m (aNew M7 1 (lt_n 1200) (lt_n 1200)) fun M8 => lt_ck M8 o0 22 (lt_m (wP M8 o0 9 (some (mN M7))) fun M9 => lt_ln 1200 (lt_m (aNew M9 1 (lt_n 1200) (lt_n 1200)) fun M10 => lt_ck M10 o0 22 (lt_m (wP M10 o0 10 (some (mN M9))) fun M11 => lt_ln 2048 (lt_m (aNew M11 1 (lt_n 2048) (lt_n 2048)) fun M12 => lt_ck M12 o0 22 (lt_m (wP M12 o0 11 (some (mN M11))) fun M13 => some (.inl none, M13)))))))))))))) :=
  (lx_ev (d := d) (m := 51) (hs := []) 32 0 [.ref o0] [] M).symm
set_option maxRecDepth 100000 in
set_option maxHeartbeats 4000000 in
theorem e_X6_look (d : Nat) (M : LM) (o0 : Nat) (x1 : Int32) (x2 : Int32) (x3 : Int32) (x4 : Int32) (x5 : Int32) : f_X6_look (d + 1) M o0 x1 x2 x3 x4 x5 = lt_ck M o0 22 (lt_b1 x1 (lt_m (wI M o0 2 x1) fun M1 => lt_ck M1 o0 22 (lt_m (wI M1 o0 3 x2) fun M2 => lt_ck M2 o0 22 (lt_m (wI M2 o0 4 x3) fun M3 => lt_ck M3 o0 22 (lt_m (wI M3 o0 5 x4) fun M4 => lt_ck M4 o0 22 (lt_m (wI M4 o0 6 0) fun M5 => lt_ck M5 o0 22 (lt_m (wI M5 o0 1 ((-1))) fun M6 => lt_ck M6 o0 22 (lt_rf (mP M6 o0 11) fun q7 => lt_bv (f_J7_fill_53178 d M6 q7 0) [] fun M8 => lt_ck M8 o0 22 (lt_bv (f_X6_offer d M8 o0 0 0 ((-1)) ((-1))) [] fun M9 => f_X6_look_53 (d + 1) M9 o0 x5 0 1))))))))) :=
  (lx_ev (d := d) (m := 52) (hs := [53, 77]) 63 0 [.ref o0, .int x1, .int x2, .int x3, .int x4, .int x5, lt_j, lt_j, lt_j, lt_j] [] M).symm
set_option maxRecDepth 100000 in
set_option maxHeartbeats 4000000 in
theorem e_X6_look_53 (d : Nat) (M : LM) (o0 : Nat) (x5 : Int32) (x6 : Int32) (x7 : Int32) : f_X6_look_53 (d + 1) M o0 x5 x6 x7 = if @LT.lt Int32 _ x5 x7 then (some (.inl (some (.int ((-1)))), M)) else (if @LT.lt Int32 _ 12 x7 then (some (.inl (some (.int ((-1)))), M)) else (lt_ck M o0 22 (f_X6_look_77 (d + 1) M o0 x5 x7 (mI M o0 6) x6))) :=
  (lx_ev (d := d) (m := 52) (hs := [53, 77]) 63 53 [.ref o0, lt_j, lt_j, lt_j, lt_j, .int x5, .int x6, .int x7, lt_j, lt_j] [] M).symm
set_option maxRecDepth 100000 in
set_option maxHeartbeats 4000000 in
theorem e_X6_look_77 (d : Nat) (M : LM) (o0 : Nat) (x5 : Int32) (x7 : Int32) (x8 : Int32) (x9 : Int32) : f_X6_look_77 (d + 1) M o0 x5 x7 x8 x9 = if @LT.lt Int32 _ x9 x8 then (lt_ck M o0 22 (lt_bi (f_X6_goOn d M o0 x9 x7) [] fun v11 M10 => if @Eq Int32 v11 0 then (f_X6_look_77 (d + 1) M10 o0 x5 x7 x8 (x9 + 1)) else (some (.inl (some (.int x7)), M10)))) else (f_X6_look_53 (d + 1) M o0 x5 x8 (x7 + 1)) :=
  (lx_ev (d := d) (m := 52) (hs := [53, 77]) 63 77 [.ref o0, lt_j, lt_j, lt_j, lt_j, .int x5, lt_j, .int x7, .int x8, .int x9] [] M).symm
set_option maxRecDepth 100000 in
set_option maxHeartbeats 4000000 in
theorem e_X6_goOn (d : Nat) (M : LM) (o0 : Nat) (x1 : Int32) (x2 : Int32) : f_X6_goOn (d + 1) M o0 x1 x2 = lt_ck M o0 22 (lt_rf (mP M o0 7) fun q1 => lt_bl (f_X10_at_ d M q1 x1) [] fun v3 M2 => f_X6_goOn_38 (d + 1) M2 o0 x1 x2 (Int64.toInt32 (v3 &&& 65535)) (Int64.toInt32 ((lt_lus v3 16) &&& 16777215)) (Int64.toInt32 (lt_lus v3 40)) 0) :=
  (lx_ev (d := d) (m := 53) (hs := [38, 70]) 104 0 [.ref o0, .int x1, .int x2, lt_j, lt_j, lt_j, lt_j, lt_j, lt_j, lt_j, lt_j, lt_j, lt_j] [] M).symm
set_option maxRecDepth 100000 in
set_option maxHeartbeats 4000000 in
theorem e_X6_goOn_38 (d : Nat) (M : LM) (o0 : Nat) (x1 : Int32) (x2 : Int32) (x5 : Int32) (x6 : Int32) (x7 : Int32) (x8 : Int32) : f_X6_goOn_38 (d + 1) M o0 x1 x2 x5 x6 x7 x8 = lt_ck M o0 22 (if @LT.lt Int32 _ x8 (mI M o0 5) then (if @LT.lt Int32 _ x7 x8 then (lt_b1 0 (some (.inl (some (.int 0)), M))) else (lt_bi (f_X6_placeIn d M x5 x8) [] fun v5 M4 => if @Eq Int32 v5 ((-1)) then (f_X6_goOn_70 (d + 1) M4 o0 x1 x2 x5 x6 x7 x8 0) else (f_X6_goOn_70 (d + 1) M4 o0 x1 x2 x5 x6 x7 x8 1))) else (lt_b1 0 (some (.inl (some (.int 0)), M)))) :=
  (lx_ev (d := d) (m := 53) (hs := [38, 70]) 104 38 [.ref o0, .int x1, .int x2, lt_j, lt_j, .int x5, .int x6, .int x7, .int x8, lt_j, lt_j, lt_j, lt_j] [] M).symm
set_option maxRecDepth 100000 in
set_option maxHeartbeats 4000000 in
theorem e_X6_goOn_70 (d : Nat) (M : LM) (o0 : Nat) (x1 : Int32) (x2 : Int32) (x5 : Int32) (x6 : Int32) (x7 : Int32) (x8 : Int32) (s0 : Int32) : f_X6_goOn_70 (d + 1) M o0 x1 x2 x5 x6 x7 x8 s0 = lt_bi (f_X6_placeIn d M x6 x8) [] fun v7 M6 => if @Eq Int32 v7 ((-1)) then (lt_ck M6 o0 22 (lt_rf (mP M6 o0 8) fun q8 => lt_bi (f_X10_at d M6 q8 x1) [] fun v10 M9 => if @LT.lt Int32 _ 0 (v10 + (s0 - 0)) then (lt_ck M9 o0 22 (lt_bv (f_X6_keep d M9 o0 x1 x8 x2) [] fun M18 => lt_b1 1 (some (.inl (some (.int 1)), M18)))) else (lt_ck M9 o0 22 (lt_ck M9 o0 22 (lt_bi (f_X6_behind d M9 o0 x5 (mI M9 o0 3) x8) [] fun v12 M11 => lt_ck M11 o0 22 (lt_ck M11 o0 22 (lt_bi (f_X6_behind d M11 o0 x6 (mI M11 o0 4) x8) [] fun v14 M13 => lt_bi (f_J9_max_7cf53 d M13 x7 (x8 + 1)) [] fun v16 M15 => lt_ck M15 o0 22 (lt_bv (f_X6_offer d M15 o0 (((Int32.toInt64 v12) ||| (lt_lsl (Int32.toInt64 v14) 16)) ||| (lt_lsl (Int32.toInt64 v16) 40)) (v10 + (s0 - 0)) x1 x8) [] fun M17 => f_X6_goOn_38 (d + 1) M17 o0 x1 x2 x5 x6 x7 (x8 + 1))))))))) else (lt_ck M6 o0 22 (lt_rf (mP M6 o0 8) fun q19 => lt_bi (f_X10_at d M6 q19 x1) [] fun v21 M20 => if @LT.lt Int32 _ 0 (v21 + (s0 - 1)) then (lt_ck M20 o0 22 (lt_bv (f_X6_keep d M20 o0 x1 x8 x2) [] fun M29 => lt_b1 1 (some (.inl (some (.int 1)), M29)))) else (lt_ck M20 o0 22 (lt_ck M20 o0 22 (lt_bi (f_X6_behind d M20 o0 x5 (mI M20 o0 3) x8) [] fun v23 M22 => lt_ck M22 o0 22 (lt_ck M22 o0 22 (lt_bi (f_X6_behind d M22 o0 x6 (mI M22 o0 4) x8) [] fun v25 M24 => lt_bi (f_J9_max_7cf53 d M24 x7 (x8 + 1)) [] fun v27 M26 => lt_ck M26 o0 22 (lt_bv (f_X6_offer d M26 o0 (((Int32.toInt64 v23) ||| (lt_lsl (Int32.toInt64 v25) 16)) ||| (lt_lsl (Int32.toInt64 v27) 40)) (v21 + (s0 - 1)) x1 x8) [] fun M28 => f_X6_goOn_38 (d + 1) M28 o0 x1 x2 x5 x6 x7 (x8 + 1))))))))) :=
  (lx_ev (d := d) (m := 53) (hs := [38, 70]) 104 70 [.ref o0, .int x1, .int x2, lt_j, lt_j, .int x5, .int x6, .int x7, .int x8, lt_j, lt_j, lt_j, lt_j] [.int s0] M).symm
set_option maxRecDepth 100000 in
set_option maxHeartbeats 4000000 in
theorem e_X6_keep (d : Nat) (M : LM) (o0 : Nat) (x1 : Int32) (x2 : Int32) (x3 : Int32) : f_X6_keep (d + 1) M o0 x1 x2 x3 = lt_ck M o0 22 (lt_m (wI M o0 1 x3) fun M1 => lt_ck M1 o0 22 (lt_rf (mP M1 o0 0) fun q2 => lt_bv (f_X10_put d M1 q2 (x3 - 1) x2) [] fun M3 => f_X6_keep_24 (d + 1) M3 o0 x1 (x3 - 2))) :=
  (lx_ev (d := d) (m := 54) (hs := [24]) 36 0 [.ref o0, .int x1, .int x2, .int x3, lt_j, lt_j] [] M).symm
set_option maxRecDepth 100000 in
set_option maxHeartbeats 4000000 in
theorem e_X6_keep_24 (d : Nat) (M : LM) (o0 : Nat) (x4 : Int32) (x5 : Int32) : f_X6_keep_24 (d + 1) M o0 x4 x5 = if @LT.lt Int32 _ x5 0 then (some (.inl none, M)) else (lt_ck M o0 22 (lt_rf (mP M o0 0) fun q4 => lt_ck M o0 22 (lt_rf (mP M o0 10) fun q5 => lt_bi (f_X10_at d M q5 x4) [] fun v7 M6 => lt_bv (f_X10_put d M6 q4 x5 v7) [] fun M8 => lt_ck M8 o0 22 (lt_rf (mP M8 o0 9) fun q9 => lt_bi (f_X10_at d M8 q9 x4) [] fun v11 M10 => f_X6_keep_24 (d + 1) M10 o0 v11 (x5 + (-1)))))) :=
  (lx_ev (d := d) (m := 54) (hs := [24]) 36 24 [.ref o0, lt_j, lt_j, lt_j, .int x4, .int x5] [] M).symm
set_option maxRecDepth 100000 in
set_option maxHeartbeats 4000000 in
theorem e_X6_offer (d : Nat) (M : LM) (o0 : Nat) (x1 : Int64) (x2 : Int32) (x3 : Int32) (x4 : Int32) : f_X6_offer (d + 1) M o0 x1 x2 x3 x4 = f_X6_offer_14 (d + 1) M o0 x1 x2 x3 x4 (Int64.toInt32 (lt_lus (x1 * ((-7046029254386353131))) 53)) 0 :=
  (lx_ev (d := d) (m := 55) (hs := [14, 83]) 103 0 [.ref o0, .long x1, lt_j, .int x2, .int x3, .int x4, lt_j, lt_j, lt_j] [] M).symm
set_option maxRecDepth 100000 in
set_option maxHeartbeats 4000000 in
theorem e_X6_offer_14 (d : Nat) (M : LM) (o0 : Nat) (x1 : Int64) (x3 : Int32) (x4 : Int32) (x5 : Int32) (x6 : Int32) (x7 : Int32) : f_X6_offer_14 (d + 1) M o0 x1 x3 x4 x5 x6 x7 = if @LT.lt Int32 _ x7 2048 then (lt_ck M o0 22 (lt_rf (mP M o0 11) fun q1 => lt_bi (f_X10_at d M q1 x6) [] fun v3 M2 => if @LT.lt Int32 _ (v3 - 1) 0 then (f_X6_offer_83 (d + 1) M2 o0 x1 x3 x4 x5 x6) else (lt_ck M2 o0 22 (lt_rf (mP M2 o0 7) fun q4 => lt_bl (f_X10_at_ d M2 q4 (v3 - 1)) [] fun v6 M5 => if @Eq Int32 (lg_cmp v6 x1) 0 then (f_X6_offer_83 (d + 1) M5 o0 x1 x3 x4 x5 x6) else (if @LT.lt Int32 _ (x6 + 1) 2048 then (f_X6_offer_14 (d + 1) M5 o0 x1 x3 x4 x5 (x6 + 1) (x7 + 1)) else (f_X6_offer_14 (d + 1) M5 o0 x1 x3 x4 x5 0 (x7 + 1))))))) else (f_X6_offer_83 (d + 1) M o0 x1 x3 x4 x5 x6) :=
  (lx_ev (d := d) (m := 55) (hs := [14, 83]) 103 14 [.ref o0, .long x1, lt_j, .int x3, .int x4, .int x5, .int x6, .int x7, lt_j] [] M).symm
set_option maxRecDepth 100000 in
set_option maxHeartbeats 4000000 in
theorem e_X6_offer_83 (d : Nat) (M : LM) (o0 : Nat) (x1 : Int64) (x3 : Int32) (x4 : Int32) (x5 : Int32) (x6 : Int32) : f_X6_offer_83 (d + 1) M o0 x1 x3 x4 x5 x6 = lt_ck M o0 22 (lt_rf (mP M o0 11) fun q7 => lt_bi (f_X10_at d M q7 x6) [] fun v9 M8 => if @LT.lt Int32 _ (v9 - 1) 0 then (lt_ck M8 o0 22 (if @LT.lt Int32 _ (mI M8 o0 6) 1200 then (lt_ck M8 o0 22 (lt_rf (mP M8 o0 11) fun q10 => lt_ck M8 o0 22 (lt_bv (f_X10_put d M8 q10 x6 ((mI M8 o0 6) + 1)) [] fun M11 => lt_ck M11 o0 22 (lt_rf (mP M11 o0 7) fun q12 => lt_ck M11 o0 22 (lt_bv (f_X10_put_ d M11 q12 (mI M11 o0 6) x1) [] fun M13 => lt_ck M13 o0 22 (lt_rf (mP M13 o0 8) fun q14 => lt_ck M13 o0 22 (lt_bv (f_X10_put d M13 q14 (mI M13 o0 6) x3) [] fun M15 => lt_ck M15 o0 22 (lt_rf (mP M15 o0 9) fun q16 => lt_ck M15 o0 22 (lt_bv (f_X10_put d M15 q16 (mI M15 o0 6) x4) [] fun M17 => lt_ck M17 o0 22 (lt_rf (mP M17 o0 10) fun q18 => lt_ck M17 o0 22 (lt_bv (f_X10_put d M17 q18 (mI M17 o0 6) x5) [] fun M19 => lt_ck M19 o0 22 (lt_ck M19 o0 22 (lt_m (wI M19 o0 6 ((mI M19 o0 6) + 1)) fun M20 => some (.inl none, M20)))))))))))))) else (some (.inl none, M8)))) else (lt_ck M8 o0 22 (lt_rf (mP M8 o0 8) fun q21 => lt_bi (f_X10_at d M8 q21 (v9 - 1)) [] fun v23 M22 => if @LT.lt Int32 _ v23 x3 then (lt_ck M22 o0 22 (if @LT.lt Int32 _ (mI M22 o0 6) 1200 then (lt_ck M22 o0 22 (lt_rf (mP M22 o0 11) fun q24 => lt_ck M22 o0 22 (lt_bv (f_X10_put d M22 q24 x6 ((mI M22 o0 6) + 1)) [] fun M25 => lt_ck M25 o0 22 (lt_rf (mP M25 o0 7) fun q26 => lt_ck M25 o0 22 (lt_bv (f_X10_put_ d M25 q26 (mI M25 o0 6) x1) [] fun M27 => lt_ck M27 o0 22 (lt_rf (mP M27 o0 8) fun q28 => lt_ck M27 o0 22 (lt_bv (f_X10_put d M27 q28 (mI M27 o0 6) x3) [] fun M29 => lt_ck M29 o0 22 (lt_rf (mP M29 o0 9) fun q30 => lt_ck M29 o0 22 (lt_bv (f_X10_put d M29 q30 (mI M29 o0 6) x4) [] fun M31 => lt_ck M31 o0 22 (lt_rf (mP M31 o0 10) fun q32 => lt_ck M31 o0 22 (lt_bv (f_X10_put d M31 q32 (mI M31 o0 6) x5) [] fun M33 => lt_ck M33 o0 22 (lt_ck M33 o0 22 (lt_m (wI M33 o0 6 ((mI M33 o0 6) + 1)) fun M34 => some (.inl none, M34)))))))))))))) else (some (.inl none, M22)))) else (some (.inl none, M22))))) :=
  (lx_ev (d := d) (m := 55) (hs := [14, 83]) 103 83 [.ref o0, .long x1, lt_j, .int x3, .int x4, .int x5, .int x6, lt_j, lt_j] [] M).symm
set_option maxRecDepth 100000 in
set_option maxHeartbeats 4000000 in
theorem e_X6_placeIn (d : Nat) (M : LM) (x0 : Int32) (x1 : Int32) : f_X6_placeIn (d + 1) M x0 x1 = f_X6_placeIn_4 (d + 1) M x1 x0 0 :=
  (lx_ev (d := d) (m := 56) (hs := [4]) 26 0 [.int x0, .int x1, lt_j, lt_j] [] M).symm
set_option maxRecDepth 100000 in
set_option maxHeartbeats 4000000 in
theorem e_X6_placeIn_4 (d : Nat) (M : LM) (x1 : Int32) (x2 : Int32) (x3 : Int32) : f_X6_placeIn_4 (d + 1) M x1 x2 x3 = if @LT.lt Int32 _ x3 6 then (if @Eq Int32 (x2 &&& 7) (x1 + 1) then (some (.inl (some (.int x3)), M)) else (f_X6_placeIn_4 (d + 1) M x1 (lt_us x2 4) (x3 + 1))) else (some (.inl (some (.int ((-1)))), M)) :=
  (lx_ev (d := d) (m := 56) (hs := [4]) 26 4 [lt_j, .int x1, .int x2, .int x3] [] M).symm
set_option maxRecDepth 100000 in
set_option maxHeartbeats 4000000 in
theorem e_X6_behind (d : Nat) (M : LM) (o0 : Nat) (x1 : Int32) (x2 : Int32) (x3 : Int32) : f_X6_behind (d + 1) M o0 x1 x2 x3 = lt_bi (f_X6_placeIn d M x1 x3) [] fun v2 M1 => if @Eq Int32 v2 ((-1)) then (lt_bi (f_X6_placeIn d M1 x1 ((-1))) [] fun v4 M3 => if @Eq Int32 v4 ((-1)) then (lt_bi (f_X6_turned d M3 x1 x2) [] fun v6 M5 => some (.inl (some (.int ((lt_us v6 4) ||| ((x3 + 1) <<< ((4 * (x2 - 1)) &&& 31))))), M5)) else (if @LT.lt Int32 _ v4 x2 then (some (.inl (some (.int (x1 ||| ((x3 + 1) <<< ((4 * v4) &&& 31))))), M3)) else (lt_bi (f_X6_turned d M3 x1 x2) [] fun v8 M7 => some (.inl (some (.int ((lt_us v8 4) ||| ((x3 + 1) <<< ((4 * (x2 - 1)) &&& 31))))), M7)))) else (lt_ck M1 o0 22 (if @Eq Int32 (mI M1 o0 2) 0 then (some (.inl (some (.int x1)), M1)) else (some (.inl (some (.int (x1 ||| (8 <<< ((4 * v2) &&& 31))))), M1)))) :=
  (lx_ev (d := d) (m := 57) (hs := []) 60 0 [.ref o0, .int x1, .int x2, .int x3, lt_j, lt_j] [] M).symm
set_option maxRecDepth 100000 in
set_option maxHeartbeats 4000000 in
theorem e_X6_turned (d : Nat) (M : LM) (x0 : Int32) (x1 : Int32) : f_X6_turned (d + 1) M x0 x1 = f_X6_turned_4 (d + 1) M x1 x0 0 :=
  (lx_ev (d := d) (m := 58) (hs := [4]) 31 0 [.int x0, .int x1, lt_j, lt_j] [] M).symm
set_option maxRecDepth 100000 in
set_option maxHeartbeats 4000000 in
theorem e_X6_turned_4 (d : Nat) (M : LM) (x1 : Int32) (x2 : Int32) (x3 : Int32) : f_X6_turned_4 (d + 1) M x1 x2 x3 = if @LT.lt Int32 _ x3 x1 then (if @Eq Int32 (x2 &&& 8) 0 then (some (.inl (some (.int x2)), M)) else (f_X6_turned_4 (d + 1) M x1 ((lt_us x2 4) ||| ((x2 &&& 7) <<< ((4 * (x1 - 1)) &&& 31))) (x3 + 1))) else (some (.inl (some (.int x2)), M)) :=
  (lx_ev (d := d) (m := 58) (hs := [4]) 31 4 [lt_j, .int x1, .int x2, .int x3] [] M).symm
set_option maxRecDepth 100000 in
set_option maxHeartbeats 4000000 in
theorem e_X7_init (d : Nat) (M : LM) (o0 : Nat) : f_X7_init (d + 1) M o0 = lt_ln 26 (lt_m (aNew M 2 (lt_n 26) (lt_n 26)) fun M1 => lt_ck M1 o0 23 (lt_m (wP M1 o0 3 (some (mN M))) fun M2 => lt_ln 26 (lt_m (aNew M2 1 (lt_n 26) (lt_n 26)) fun M3 => lt_ck M3 o0 23 (lt_m (wP M3 o0 4 (some (mN M2))) fun M4 => lt_ln 300 (lt_m (aNew M4 1 (lt_n 300) (lt_n 300)) fun M5 => lt_ck M5 o0 23 (lt_m (wP M5 o0 5 (some (mN M4))) fun M6 => lt_ln 27 (lt_m (aNew M6 1 (lt_n 27) (lt_n 27)) fun M7 => lt_ck M7 o0 23 (lt_m (wP M7 o0 6 (some (mN M6))) fun M8 => some (.inl none, M8))))))))) :=
  (lx_ev (d := d) (m := 59) (hs := []) 21 0 [.ref o0] [] M).symm
set_option maxRecDepth 100000 in
set_option maxHeartbeats 4000000 in
theorem e_X7_feed (d : Nat) (M : LM) (o0 : Nat) (o1 : Nat) (x2 : Int32) (x3 : Int32) (x4 : Int32) : f_X7_feed (d + 1) M o0 o1 x2 x3 x4 = lt_ck M o0 23 (lt_m (wI M o0 0 0) fun M1 => lt_ck M1 o0 23 (lt_m (wI M1 o0 1 ((-1))) fun M2 => lt_ck M2 o0 23 (lt_m (wI M2 o0 2 0) fun M3 => lt_ck M3 o0 23 (lt_rf (mP M3 o0 3) fun q4 => lt_bv (f_J7_fill_d0a16 d M3 q4 0) [] fun M5 => if @Eq Int32 x2 ((-1)) then (lt_ck M5 o0 23 (lt_bv (f_X7_lookAhead d M5 o0 o1) [] fun M6 => f_X7_feed_36 (d + 1) M6 o0 o1 x2 x3 x4 0)) else (f_X7_feed_36 (d + 1) M5 o0 o1 x2 x3 x4 0))))) :=
  (lx_ev (d := d) (m := 60) (hs := [36, 88, 123]) 95 0 [.ref o0, .ref o1, .int x2, .int x3, .int x4, lt_j, lt_j, lt_j] [] M).symm
set_option maxRecDepth 100000 in
set_option maxHeartbeats 4000000 in
theorem e_X7_feed_36 (d : Nat) (M : LM) (o0 : Nat) (o1 : Nat) (x2 : Int32) (x3 : Int32) (x4 : Int32) (x5 : Int32) : f_X7_feed_36 (d + 1) M o0 o1 x2 x3 x4 x5 = if @LT.lt Int32 _ x5 x4 then (if @LT.lt Int32 _ x5 300 then (lt_ck M o1 20 (lt_rf (mP M o1 0) fun q7 => lt_bi (f_X10_at d M q7 x5) [] fun v9 M8 => lt_ck M8 o0 23 (lt_bi (f_X10_has d M8 (mI M8 o0 0) v9) [] fun v11 M10 => lt_ck M10 o0 23 (if @Eq Int32 v11 0 then (f_X7_feed_88 (d + 1) M10 o0 o1 x2 x3 x4 x5 v9 v11 0 (mI M10 o0 2) o0) else (f_X7_feed_88 (d + 1) M10 o0 o1 x2 x3 x4 x5 v9 v11 1 (mI M10 o0 2) o0))))) else (some (.inl none, M))) else (some (.inl none, M)) :=
  (lx_ev (d := d) (m := 60) (hs := [36, 88, 123]) 95 36 [.ref o0, .ref o1, .int x2, .int x3, .int x4, .int x5, lt_j, lt_j] [] M).symm
set_option maxRecDepth 100000 in
set_option maxHeartbeats 4000000 in
theorem e_X7_feed_88 (d : Nat) (M : LM) (o0 : Nat) (o1 : Nat) (x2 : Int32) (x3 : Int32) (x4 : Int32) (x5 : Int32) (x6 : Int32) (x7 : Int32) (s0 : Int32) (s1 : Int32) (s2 : Nat) : f_X7_feed_88 (d + 1) M o0 o1 x2 x3 x4 x5 x6 x7 s0 s1 s2 = lt_ck M s2 23 (lt_m (wI M s2 2 (s1 + s0)) fun M12 => if @Eq Int32 x7 0 then (lt_ck M12 o0 23 (lt_bi (f_J6_bitCount_0f7a4 d M12 (mI M12 o0 0)) [] fun v14 M13 => if @LT.lt Int32 _ v14 x3 then (f_X7_feed_123 (d + 1) M13 o0 o1 x2 x3 x4 x5 x6 x7 o0) else (lt_ck M13 o0 23 (lt_ck M13 o0 23 (lt_rf (mP M13 o0 3) fun q15 => lt_bi (f_X10_least d M13 (mI M13 o0 0) q15) [] fun v17 M16 => lt_ck M16 o0 23 (lt_m (wI M16 o0 1 v17) fun M18 => lt_ck M18 o0 23 (lt_ck M18 o0 23 (lt_bi (f_X10_bit d M18 (mI M18 o0 1)) [] fun v20 M19 => lt_bi (f_X10_bit d M19 x6) [] fun v22 M21 => lt_ck M21 o0 23 (lt_m (wI M21 o0 0 (((mI M18 o0 0) &&& (v20 ^^^ ((-1)))) ||| v22)) fun M23 => if @Eq Int32 x7 0 then (lt_ck M23 o0 23 (lt_rf (mP M23 o0 3) fun q24 => lt_ck M23 o0 23 (lt_bl (f_X7_rankBehind d M23 o0 x2 x6 x5) [] fun v26 M25 => lt_bv (f_X10_put_ d M25 q24 x6 v26) [] fun M27 => f_X7_feed_36 (d + 1) M27 o0 o1 x2 x3 x4 (x5 + 1)))) else (if @Eq Int32 x2 2 then (f_X7_feed_36 (d + 1) M23 o0 o1 x2 x3 x4 (x5 + 1)) else (lt_ck M23 o0 23 (lt_rf (mP M23 o0 3) fun q28 => lt_ck M23 o0 23 (lt_bl (f_X7_rankBehind d M23 o0 x2 x6 x5) [] fun v30 M29 => lt_bv (f_X10_put_ d M29 q28 x6 v30) [] fun M31 => f_X7_feed_36 (d + 1) M31 o0 o1 x2 x3 x4 (x5 + 1)))))))))))))) else (f_X7_feed_123 (d + 1) M12 o0 o1 x2 x3 x4 x5 x6 x7 o0)) :=
  (lx_ev (d := d) (m := 60) (hs := [36, 88, 123]) 95 88 [.ref o0, .ref o1, .int x2, .int x3, .int x4, .int x5, .int x6, .int x7] [.int s0, .int s1, .ref s2] M).symm
set_option maxRecDepth 100000 in
set_option maxHeartbeats 4000000 in
theorem e_X7_feed_123 (d : Nat) (M : LM) (o0 : Nat) (o1 : Nat) (x2 : Int32) (x3 : Int32) (x4 : Int32) (x5 : Int32) (x6 : Int32) (x7 : Int32) (s0 : Nat) : f_X7_feed_123 (d + 1) M o0 o1 x2 x3 x4 x5 x6 x7 s0 = lt_ck M s0 23 (lt_m (wI M s0 1 ((-1))) fun M32 => lt_ck M32 o0 23 (lt_ck M32 o0 23 (lt_bi (f_X10_bit d M32 (mI M32 o0 1)) [] fun v34 M33 => lt_bi (f_X10_bit d M33 x6) [] fun v36 M35 => lt_ck M35 o0 23 (lt_m (wI M35 o0 0 (((mI M32 o0 0) &&& (v34 ^^^ ((-1)))) ||| v36)) fun M37 => if @Eq Int32 x7 0 then (lt_ck M37 o0 23 (lt_rf (mP M37 o0 3) fun q38 => lt_ck M37 o0 23 (lt_bl (f_X7_rankBehind d M37 o0 x2 x6 x5) [] fun v40 M39 => lt_bv (f_X10_put_ d M39 q38 x6 v40) [] fun M41 => f_X7_feed_36 (d + 1) M41 o0 o1 x2 x3 x4 (x5 + 1)))) else (if @Eq Int32 x2 2 then (f_X7_feed_36 (d + 1) M37 o0 o1 x2 x3 x4 (x5 + 1)) else (lt_ck M37 o0 23 (lt_rf (mP M37 o0 3) fun q42 => lt_ck M37 o0 23 (lt_bl (f_X7_rankBehind d M37 o0 x2 x6 x5) [] fun v44 M43 => lt_bv (f_X10_put_ d M43 q42 x6 v44) [] fun M45 => f_X7_feed_36 (d + 1) M45 o0 o1 x2 x3 x4 (x5 + 1))))))))) :=
  (lx_ev (d := d) (m := 60) (hs := [36, 88, 123]) 95 123 [.ref o0, .ref o1, .int x2, .int x3, .int x4, .int x5, .int x6, .int x7] [.ref s0] M).symm
set_option maxRecDepth 100000 in
set_option maxHeartbeats 4000000 in
theorem e_X7_rankBehind (d : Nat) (M : LM) (o0 : Nat) (x1 : Int32) (x2 : Int32) (x3 : Int32) : f_X7_rankBehind (d + 1) M o0 x1 x2 x3 = if Int32.toInt x1 = (-1) then (lt_ck M o0 23 (lt_rf (mP M o0 5) fun q1 => lt_bi (f_X10_at d M q1 x3) [] fun v3 M2 => some (.inl (some (.long (Int32.toInt64 (-v3)))), M2))) else if Int32.toInt x1 = 1 then (lt_ck M o0 23 (lt_rf (mP M o0 3) fun q4 => lt_bl (f_X10_at_ d M q4 x2) [] fun v6 M5 => lt_bl (f_X10_rankAskedAgain d M5 v6 x3) [] fun v8 M7 => some (.inl (some (.long v8)), M7))) else (some (.inl (some (.long (Int32.toInt64 x3))), M)) :=
  (lx_ev (d := d) (m := 61) (hs := []) 21 0 [.ref o0, .int x1, .int x2, .int x3] [] M).symm
set_option maxRecDepth 100000 in
set_option maxHeartbeats 4000000 in
theorem e_X7_lookAhead (d : Nat) (M : LM) (o0 : Nat) (o1 : Nat) : f_X7_lookAhead (d + 1) M o0 o1 = f_X7_lookAhead_2 (d + 1) M o0 o1 0 :=
  (lx_ev (d := d) (m := 62) (hs := [2, 35]) 46 0 [.ref o0, .ref o1, lt_j, lt_j] [] M).symm
set_option maxRecDepth 100000 in
set_option maxHeartbeats 4000000 in
theorem e_X7_lookAhead_2 (d : Nat) (M : LM) (o0 : Nat) (o1 : Nat) (x2 : Int32) : f_X7_lookAhead_2 (d + 1) M o0 o1 x2 = lt_ck M o0 23 (lt_rf (mP M o0 4) fun q1 => lt_al M q1 (if @LT.lt Int32 _ x2 (nI (mZ M q1)) then (lt_ck M o0 23 (lt_rf (mP M o0 4) fun q2 => lt_ar M q2 1 x2 (lt_m (wI M q2 (lt_n x2) (300 + x2)) fun M3 => f_X7_lookAhead_2 (d + 1) M3 o0 o1 (x2 + 1)))) else (lt_ck M o1 20 (f_X7_lookAhead_35 (d + 1) M o0 o1 ((mI M o1 3) - 1))))) :=
  (lx_ev (d := d) (m := 62) (hs := [2, 35]) 46 2 [.ref o0, .ref o1, .int x2, lt_j] [] M).symm
set_option maxRecDepth 100000 in
set_option maxHeartbeats 4000000 in
theorem e_X7_lookAhead_35 (d : Nat) (M : LM) (o0 : Nat) (o1 : Nat) (x2 : Int32) : f_X7_lookAhead_35 (d + 1) M o0 o1 x2 = if @LT.lt Int32 _ x2 0 then (some (.inl none, M)) else (lt_ck M o1 20 (lt_rf (mP M o1 0) fun q4 => lt_bi (f_X10_at d M q4 x2) [] fun v6 M5 => lt_ck M5 o0 23 (lt_rf (mP M5 o0 5) fun q7 => lt_ck M5 o0 23 (lt_rf (mP M5 o0 4) fun q8 => lt_bi (f_X10_at d M5 q8 v6) [] fun v10 M9 => lt_bv (f_X10_put d M9 q7 x2 v10) [] fun M11 => lt_ck M11 o0 23 (lt_rf (mP M11 o0 4) fun q12 => lt_bv (f_X10_put d M11 q12 v6 x2) [] fun M13 => f_X7_lookAhead_35 (d + 1) M13 o0 o1 (x2 + (-1))))))) :=
  (lx_ev (d := d) (m := 62) (hs := [2, 35]) 46 35 [.ref o0, .ref o1, .int x2, lt_j] [] M).symm
set_option maxRecDepth 100000 in
set_option maxHeartbeats 4000000 in
theorem e_X7_hitsBy (d : Nat) (M : LM) (o0 : Nat) (o1 : Nat) (x2 : Int32) (x3 : Int32) : f_X7_hitsBy (d + 1) M o0 o1 x2 x3 = lt_ck M o1 20 (lt_ck M o0 23 (lt_bv (f_X7_feed d M o0 o1 x2 x3 (mI M o1 3)) [] fun M1 => lt_ck M1 o0 23 (some (.inl (some (.int (mI M1 o0 2))), M1)))) :=
  (lx_ev (d := d) (m := 63) (hs := []) 12 0 [.ref o0, .ref o1, .int x2, .int x3] [] M).symm
set_option maxRecDepth 100000 in
set_option maxHeartbeats 4000000 in
theorem e_X7_brokenSizes (d : Nat) (M : LM) (o0 : Nat) (o1 : Nat) : f_X7_brokenSizes (d + 1) M o0 o1 = lt_ck M o0 23 (lt_bv (f_X7_countDistances d M o0 o1) [] fun M1 => f_X7_brokenSizes_18 (d + 1) M1 o0 o1 0 0 0 0 1) :=
  (lx_ev (d := d) (m := 64) (hs := [18, 95, 96, 123, 124, 179]) 109 0 [.ref o0, .ref o1, lt_j, lt_j, lt_j, lt_j, lt_j, lt_j, lt_j, lt_j, lt_j, lt_j, lt_j, lt_j] [] M).symm
set_option maxRecDepth 100000 in
set_option maxHeartbeats 4000000 in
theorem e_X7_brokenSizes_18 (d : Nat) (M : LM) (o0 : Nat) (o1 : Nat) (x2 : Int32) (x3 : Int32) (x4 : Int32) (x5 : Int32) (x6 : Int32) : f_X7_brokenSizes_18 (d + 1) M o0 o1 x2 x3 x4 x5 x6 = if @LT.lt Int32 _ 12 x6 then (some (.inl (some (.int x2)), M)) else (lt_ck M o0 23 (lt_rf (mP M o0 6) fun q2 => lt_bi (f_X10_at d M q2 x6) [] fun v4 M3 => lt_ck M3 o0 23 (lt_bi (f_X7_hitsBy d M3 o0 o1 0 x6) [] fun v6 M5 => lt_ck M5 o0 23 (lt_bi (f_X7_hitsBy d M5 o0 o1 1 x6) [] fun v8 M7 => lt_ck M7 o0 23 (lt_bi (f_X7_hitsBy d M7 o0 o1 2 x6) [] fun v10 M9 => lt_ck M9 o0 23 (lt_bi (f_X7_hitsBy d M9 o0 o1 ((-1)) x6) [] fun v12 M11 => if @LT.lt Int32 _ v6 x4 then (f_X7_brokenSizes_95 (d + 1) M11 o0 o1 x2 (x3 + v4) x6 v6 v8 v10 v12) else (if @LT.lt Int32 _ v8 x5 then (f_X7_brokenSizes_95 (d + 1) M11 o0 o1 x2 (x3 + v4) x6 v6 v8 v10 v12) else (f_X7_brokenSizes_96 (d + 1) M11 o0 o1 x2 (x3 + v4) x6 v6 v8 v10 v12 1)))))))) :=
  (lx_ev (d := d) (m := 64) (hs := [18, 95, 96, 123, 124, 179]) 109 18 [.ref o0, .ref o1, .int x2, .int x3, .int x4, .int x5, .int x6, lt_j, lt_j, lt_j, lt_j, lt_j, lt_j, lt_j] [] M).symm
set_option maxRecDepth 100000 in
set_option maxHeartbeats 4000000 in
theorem e_X7_brokenSizes_95 (d : Nat) (M : LM) (o0 : Nat) (o1 : Nat) (x2 : Int32) (x3 : Int32) (x6 : Int32) (x7 : Int32) (x8 : Int32) (x9 : Int32) (x10 : Int32) : f_X7_brokenSizes_95 (d + 1) M o0 o1 x2 x3 x6 x7 x8 x9 x10 = f_X7_brokenSizes_96 (d + 1) M o0 o1 x2 x3 x6 x7 x8 x9 x10 0 :=
  (lx_ev (d := d) (m := 64) (hs := [18, 95, 96, 123, 124, 179]) 109 95 [.ref o0, .ref o1, .int x2, .int x3, lt_j, lt_j, .int x6, .int x7, .int x8, .int x9, .int x10, lt_j, lt_j, lt_j] [] M).symm
set_option maxRecDepth 100000 in
set_option maxHeartbeats 4000000 in
theorem e_X7_brokenSizes_96 (d : Nat) (M : LM) (o0 : Nat) (o1 : Nat) (x2 : Int32) (x3 : Int32) (x6 : Int32) (x7 : Int32) (x8 : Int32) (x9 : Int32) (x10 : Int32) (s0 : Int32) : f_X7_brokenSizes_96 (d + 1) M o0 o1 x2 x3 x6 x7 x8 x9 x10 s0 = if @LT.lt Int32 _ x10 x7 then (f_X7_brokenSizes_123 (d + 1) M o0 o1 x2 x3 x6 x7 x8 x10 s0) else (if @LT.lt Int32 _ x10 x8 then (f_X7_brokenSizes_123 (d + 1) M o0 o1 x2 x3 x6 x7 x8 x10 s0) else (if @LT.lt Int32 _ x10 x9 then (f_X7_brokenSizes_123 (d + 1) M o0 o1 x2 x3 x6 x7 x8 x10 s0) else (f_X7_brokenSizes_124 (d + 1) M o0 o1 x2 x3 x6 x7 x8 x10 s0 1))) :=
  (lx_ev (d := d) (m := 64) (hs := [18, 95, 96, 123, 124, 179]) 109 96 [.ref o0, .ref o1, .int x2, .int x3, lt_j, lt_j, .int x6, .int x7, .int x8, .int x9, .int x10, lt_j, lt_j, lt_j] [.int s0] M).symm
set_option maxRecDepth 100000 in
set_option maxHeartbeats 4000000 in
theorem e_X7_brokenSizes_123 (d : Nat) (M : LM) (o0 : Nat) (o1 : Nat) (x2 : Int32) (x3 : Int32) (x6 : Int32) (x7 : Int32) (x8 : Int32) (x10 : Int32) (x11 : Int32) : f_X7_brokenSizes_123 (d + 1) M o0 o1 x2 x3 x6 x7 x8 x10 x11 = f_X7_brokenSizes_124 (d + 1) M o0 o1 x2 x3 x6 x7 x8 x10 x11 0 :=
  (lx_ev (d := d) (m := 64) (hs := [18, 95, 96, 123, 124, 179]) 109 123 [.ref o0, .ref o1, .int x2, .int x3, lt_j, lt_j, .int x6, .int x7, .int x8, lt_j, .int x10, .int x11, lt_j, lt_j] [] M).symm
set_option maxRecDepth 100000 in
set_option maxHeartbeats 4000000 in
theorem e_X7_brokenSizes_124 (d : Nat) (M : LM) (o0 : Nat) (o1 : Nat) (x2 : Int32) (x3 : Int32) (x6 : Int32) (x7 : Int32) (x8 : Int32) (x10 : Int32) (x11 : Int32) (s0 : Int32) : f_X7_brokenSizes_124 (d + 1) M o0 o1 x2 x3 x6 x7 x8 x10 x11 s0 = lt_ck M o1 20 (lt_ck M o1 20 (lt_ck M o1 20 (lt_bi (f_X4_phasesUpTo d M o1 x6 (mI M o1 3)) [] fun v14 M13 => if @LT.lt Int32 _ ((mI M o1 3) - x10) v14 then (if @Eq Int32 x7 x3 then (if @Eq Int32 x11 0 then (f_X7_brokenSizes_179 (d + 1) M13 o0 o1 x3 x6 x7 x8 x2) else (if @Eq Int32 s0 0 then (f_X7_brokenSizes_179 (d + 1) M13 o0 o1 x3 x6 x7 x8 x2) else (if @Eq Int32 0 0 then (f_X7_brokenSizes_179 (d + 1) M13 o0 o1 x3 x6 x7 x8 x2) else (f_X7_brokenSizes_18 (d + 1) M13 o0 o1 (x2 + 0) x3 x7 x8 (x6 + 1))))) else (f_X7_brokenSizes_179 (d + 1) M13 o0 o1 x3 x6 x7 x8 x2)) else (if @Eq Int32 x7 x3 then (if @Eq Int32 x11 0 then (f_X7_brokenSizes_179 (d + 1) M13 o0 o1 x3 x6 x7 x8 x2) else (if @Eq Int32 s0 0 then (f_X7_brokenSizes_179 (d + 1) M13 o0 o1 x3 x6 x7 x8 x2) else (if @Eq Int32 1 0 then (f_X7_brokenSizes_179 (d + 1) M13 o0 o1 x3 x6 x7 x8 x2) else (f_X7_brokenSizes_18 (d + 1) M13 o0 o1 (x2 + 0) x3 x7 x8 (x6 + 1))))) else (f_X7_brokenSizes_179 (d + 1) M13 o0 o1 x3 x6 x7 x8 x2))))) :=
  (lx_ev (d := d) (m := 64) (hs := [18, 95, 96, 123, 124, 179]) 109 124 [.ref o0, .ref o1, .int x2, .int x3, lt_j, lt_j, .int x6, .int x7, .int x8, lt_j, .int x10, .int x11, lt_j, lt_j] [.int s0] M).symm
set_option maxRecDepth 100000 in
set_option maxHeartbeats 4000000 in
theorem e_X7_brokenSizes_179 (d : Nat) (M : LM) (o0 : Nat) (o1 : Nat) (x3 : Int32) (x6 : Int32) (x7 : Int32) (x8 : Int32) (s0 : Int32) : f_X7_brokenSizes_179 (d + 1) M o0 o1 x3 x6 x7 x8 s0 = f_X7_brokenSizes_18 (d + 1) M o0 o1 (s0 + 1) x3 x7 x8 (x6 + 1) :=
  (lx_ev (d := d) (m := 64) (hs := [18, 95, 96, 123, 124, 179]) 109 179 [.ref o0, .ref o1, lt_j, .int x3, lt_j, lt_j, .int x6, .int x7, .int x8, lt_j, lt_j, lt_j, lt_j, lt_j] [.int s0] M).symm
set_option maxRecDepth 100000 in
set_option maxHeartbeats 4000000 in
theorem e_X7_countDistances (d : Nat) (M : LM) (o0 : Nat) (o1 : Nat) : f_X7_countDistances (d + 1) M o0 o1 = lt_ck M o0 23 (lt_rf (mP M o0 6) fun q1 => lt_bv (f_J7_fill_53178 d M q1 0) [] fun M2 => f_X7_countDistances_10 (d + 1) M2 o0 o1 0) :=
  (lx_ev (d := d) (m := 65) (hs := [10]) 30 0 [.ref o0, .ref o1, lt_j, lt_j] [] M).symm
set_option maxRecDepth 100000 in
set_option maxHeartbeats 4000000 in
theorem e_X7_countDistances_10 (d : Nat) (M : LM) (o0 : Nat) (o1 : Nat) (x2 : Int32) : f_X7_countDistances_10 (d + 1) M o0 o1 x2 = lt_ck M o1 20 (if @LT.lt Int32 _ x2 (mI M o1 3) then (if @LT.lt Int32 _ x2 300 then (lt_ck M o1 20 (lt_bi (f_X4_distanceOf d M o1 x2) [] fun v4 M3 => if @Eq Int32 v4 ((-1)) then (f_X7_countDistances_10 (d + 1) M3 o0 o1 (x2 + 1)) else (lt_ck M3 o0 23 (lt_rf (mP M3 o0 6) fun q5 => lt_bv (f_X10_add d M3 q5 v4 1) [] fun M6 => f_X7_countDistances_10 (d + 1) M6 o0 o1 (x2 + 1))))) else (some (.inl none, M))) else (some (.inl none, M))) :=
  (lx_ev (d := d) (m := 65) (hs := [10]) 30 10 [.ref o0, .ref o1, .int x2, lt_j] [] M).symm
set_option maxRecDepth 100000 in
set_option maxHeartbeats 4000000 in
theorem e_X8_init (d : Nat) (M : LM) (o0 : Nat) : f_X8_init (d + 1) M o0 = lt_ln 9 (lt_m (aNew M 1 (lt_n 9) (lt_n 9)) fun M1 => lt_ck M1 o0 24 (lt_m (wP M1 o0 0 (some (mN M))) fun M2 => lt_ln 26 (lt_m (aNew M2 1 (lt_n 26) (lt_n 26)) fun M3 => lt_ck M3 o0 24 (lt_m (wP M3 o0 1 (some (mN M2))) fun M4 => lt_ln 26 (lt_m (aNew M4 1 (lt_n 26) (lt_n 26)) fun M5 => lt_ck M5 o0 24 (lt_m (wP M5 o0 2 (some (mN M4))) fun M6 => lt_ln 300 (lt_m (aNew M6 1 (lt_n 300) (lt_n 300)) fun M7 => lt_ck M7 o0 24 (lt_m (wP M7 o0 3 (some (mN M6))) fun M8 => lt_ln 26 (lt_m (aNew M8 2 (lt_n 26) (lt_n 26)) fun M9 => lt_ck M9 o0 24 (lt_m (wP M9 o0 4 (some (mN M8))) fun M10 => lt_ln 26 (lt_m (aNew M10 2 (lt_n 26) (lt_n 26)) fun M11 => lt_ck M11 o0 24 (lt_m (wP M11 o0 5 (some (mN M10))) fun M12 => some (.inl none, M12))))))))))))) :=
  (lx_ev (d := d) (m := 66) (hs := []) 29 0 [.ref o0] [] M).symm
set_option maxRecDepth 100000 in
set_option maxHeartbeats 4000000 in
theorem e_X8_start (d : Nat) (M : LM) (o0 : Nat) (x1 : Int32) : f_X8_start (d + 1) M o0 x1 = lt_ck M o0 24 (lt_rf (mP M o0 0) fun q1 => lt_bv (f_J7_fill_53178 d M q1 0) [] fun M2 => lt_ck M2 o0 24 (lt_rf (mP M2 o0 1) fun q3 => lt_bv (f_J7_fill_53178 d M2 q3 0) [] fun M4 => lt_ck M4 o0 24 (lt_rf (mP M4 o0 2) fun q5 => lt_bv (f_J7_fill_53178 d M4 q5 0) [] fun M6 => lt_ck M6 o0 24 (lt_rf (mP M6 o0 4) fun q7 => lt_bv (f_J7_fill_d0a16 d M6 q7 ((-1))) [] fun M8 => lt_ck M8 o0 24 (lt_rf (mP M8 o0 5) fun q9 => lt_bv (f_J7_fill_d0a16 d M8 q9 0) [] fun M10 => lt_ck M10 o0 24 (lt_m (wI M10 o0 6 x1) fun M11 => lt_ck M11 o0 24 (lt_m (wI M11 o0 7 x1) fun M12 => some (.inl none, M12)))))))) :=
  (lx_ev (d := d) (m := 67) (hs := []) 29 0 [.ref o0, .int x1] [] M).symm
set_option maxRecDepth 100000 in
set_option maxHeartbeats 4000000 in
theorem e_X8_noteAsked (d : Nat) (M : LM) (o0 : Nat) (x1 : Int32) (x2 : Int32) : f_X8_noteAsked (d + 1) M o0 x1 x2 = lt_ck M o0 24 (lt_rf (mP M o0 4) fun q1 => lt_bv (f_X10_put_ d M q1 x2 (Int32.toInt64 x1)) [] fun M2 => lt_ck M2 o0 24 (lt_rf (mP M2 o0 5) fun q3 => lt_ck M2 o0 24 (lt_rf (mP M2 o0 5) fun q4 => lt_bl (f_X10_at_ d M2 q4 x2) [] fun v6 M5 => lt_bl (f_X10_rankAskedAgain d M5 v6 x1) [] fun v8 M7 => lt_bv (f_X10_put_ d M7 q3 x2 v8) [] fun M9 => some (.inl none, M9)))) :=
  (lx_ev (d := d) (m := 68) (hs := []) 19 0 [.ref o0, .int x1, .int x2] [] M).symm
set_option maxRecDepth 100000 in
set_option maxHeartbeats 4000000 in
theorem e_X8_noteOutcome (d : Nat) (M : LM) (o0 : Nat) (x1 : Int32) (x2 : Int32) (x3 : Int32) : f_X8_noteOutcome (d + 1) M o0 x1 x2 x3 = lt_ck M o0 24 (lt_rf (mP M o0 3) fun q1 => lt_bv (f_X10_put d M q1 x1 x3) [] fun M2 => lt_ck M2 o0 24 (lt_m (wI M2 o0 7 (x1 + 1)) fun M3 => lt_ck M3 o0 24 (lt_rf (mP M3 o0 0) fun q4 => if @Eq Int32 x3 0 then (f_X8_noteOutcome_29 (d + 1) M3 o0 x2 x3 0 q4) else (f_X8_noteOutcome_29 (d + 1) M3 o0 x2 x3 1 q4)))) :=
  (lx_ev (d := d) (m := 69) (hs := [29]) 40 0 [.ref o0, .int x1, .int x2, .int x3] [] M).symm
set_option maxRecDepth 100000 in
set_option maxHeartbeats 4000000 in
theorem e_X8_noteOutcome_29 (d : Nat) (M : LM) (o0 : Nat) (x2 : Int32) (x3 : Int32) (s0 : Int32) (s1 : Nat) : f_X8_noteOutcome_29 (d + 1) M o0 x2 x3 s0 s1 = lt_bv (f_X10_add d M s1 s0 1) [] fun M5 => if @Eq Int32 x3 0 then (lt_ck M5 o0 24 (lt_rf (mP M5 o0 1) fun q10 => lt_bv (f_X10_add d M5 q10 x2 1) [] fun M11 => if @Eq Int32 x3 2 then (lt_ck M11 o0 24 (lt_rf (mP M11 o0 0) fun q12 => lt_bv (f_X10_add d M11 q12 5 1) [] fun M13 => some (.inl none, M13))) else (some (.inl none, M11)))) else (lt_ck M5 o0 24 (lt_rf (mP M5 o0 2) fun q6 => lt_bv (f_X10_add d M5 q6 x2 1) [] fun M7 => if @Eq Int32 x3 2 then (lt_ck M7 o0 24 (lt_rf (mP M7 o0 0) fun q8 => lt_bv (f_X10_add d M7 q8 5 1) [] fun M9 => some (.inl none, M9))) else (some (.inl none, M7)))) :=
  (lx_ev (d := d) (m := 69) (hs := [29]) 40 29 [.ref o0, lt_j, .int x2, .int x3] [.int s0, .ref s1] M).symm
set_option maxRecDepth 100000 in
set_option maxHeartbeats 4000000 in
theorem e_X8_outcomeAt (d : Nat) (M : LM) (o0 : Nat) (x1 : Int32) : f_X8_outcomeAt (d + 1) M o0 x1 = lt_ck M o0 24 (if @LT.lt Int32 _ x1 (mI M o0 6) then (some (.inl (some (.int ((-1)))), M)) else (lt_ck M o0 24 (if @LT.lt Int32 _ x1 (mI M o0 7) then (lt_ck M o0 24 (lt_rf (mP M o0 3) fun q1 => lt_bi (f_X10_at d M q1 x1) [] fun v3 M2 => some (.inl (some (.int v3)), M2))) else (some (.inl (some (.int ((-1)))), M))))) :=
  (lx_ev (d := d) (m := 70) (hs := []) 17 0 [.ref o0, .int x1] [] M).symm
set_option maxRecDepth 100000 in
set_option maxHeartbeats 4000000 in
theorem e_X8_copyTally (d : Nat) (M : LM) (o0 : Nat) (o1 : Nat) : f_X8_copyTally (d + 1) M o0 o1 = lt_ck M o1 24 (lt_rf (mP M o1 0) fun q1 => lt_ck M o0 24 (lt_rf (mP M o0 0) fun q2 => lt_bv (f_X10_copy d M q1 q2) [] fun M3 => lt_ck M3 o1 24 (lt_rf (mP M3 o1 1) fun q4 => lt_ck M3 o0 24 (lt_rf (mP M3 o0 1) fun q5 => lt_bv (f_X10_copy d M3 q4 q5) [] fun M6 => lt_ck M6 o1 24 (lt_rf (mP M6 o1 2) fun q7 => lt_ck M6 o0 24 (lt_rf (mP M6 o0 2) fun q8 => lt_bv (f_X10_copy d M6 q7 q8) [] fun M9 => lt_ck M9 o1 24 (lt_rf (mP M9 o1 3) fun q10 => lt_ck M9 o0 24 (lt_rf (mP M9 o0 3) fun q11 => lt_bv (f_X10_copy d M9 q10 q11) [] fun M12 => lt_ck M12 o1 24 (lt_rf (mP M12 o1 4) fun q13 => lt_ck M12 o0 24 (lt_rf (mP M12 o0 4) fun q14 => lt_bv (f_X10_copy_ d M12 q13 q14) [] fun M15 => lt_ck M15 o1 24 (lt_rf (mP M15 o1 5) fun q16 => lt_ck M15 o0 24 (lt_rf (mP M15 o0 5) fun q17 => lt_bv (f_X10_copy_ d M15 q16 q17) [] fun M18 => lt_ck M18 o1 24 (lt_ck M18 o0 24 (lt_m (wI M18 o0 6 (mI M18 o1 6)) fun M19 => lt_ck M19 o1 24 (lt_ck M19 o0 24 (lt_m (wI M19 o0 7 (mI M19 o1 7)) fun M20 => some (.inl none, M20))))))))))))))))) :=
  (lx_ev (d := d) (m := 71) (hs := []) 41 0 [.ref o0, .ref o1] [] M).symm
set_option maxRecDepth 100000 in
set_option maxHeartbeats 4000000 in
theorem e_X9_init (d : Nat) (M : LM) (o0 : Nat) : f_X9_init (d + 1) M o0 = lt_ln 200 (lt_m (aNew M 1 (lt_n 200) (lt_n 200)) fun M1 => lt_ck M1 o0 25 (lt_m (wP M1 o0 0 (some (mN M))) fun M2 => lt_ln 300 (lt_m (aNew M2 1 (lt_n 300) (lt_n 300)) fun M3 => lt_ck M3 o0 25 (lt_m (wP M3 o0 3 (some (mN M2))) fun M4 => lt_ln 300 (lt_m (aNew M4 1 (lt_n 300) (lt_n 300)) fun M5 => lt_ck M5 o0 25 (lt_m (wP M5 o0 4 (some (mN M4))) fun M6 => lt_ln 3 (lt_m (aNew M6 1 (lt_n 3) (lt_n 3)) fun M7 => lt_ck M7 o0 25 (lt_m (wP M7 o0 5 (some (mN M6))) fun M8 => lt_ln 3 (lt_m (aNew M8 1 (lt_n 3) (lt_n 3)) fun M9 => lt_ck M9 o0 25 (lt_m (wP M9 o0 6 (some (mN M8))) fun M10 => some (.inl none, M10))))))))))) :=
  (lx_ev (d := d) (m := 72) (hs := []) 25 0 [.ref o0] [] M).symm
set_option maxRecDepth 100000 in
set_option maxHeartbeats 4000000 in
theorem e_X10_init (d : Nat) (M : LM) (o0 : Nat) : f_X10_init (d + 1) M o0 = lt_m (aNew M 16 0 5) fun M1 => lt_bv (f_X0_init d M1 (mN M)) [] fun M2 => lt_ck M2 o0 26 (lt_m (wP M2 o0 0 (some (mN M))) fun M3 => lt_ln 6 (lt_m (aNew M3 5 (lt_n 6) (lt_n 6)) fun M4 => lt_ck M4 o0 26 (lt_m (wP M4 o0 1 (some (mN M3))) fun M5 => lt_m (aNew M5 18 0 6) fun M6 => lt_bv (f_X2_init d M6 (mN M5)) [] fun M7 => lt_ck M7 o0 26 (lt_m (wP M7 o0 4 (some (mN M5))) fun M8 => lt_m (aNew M8 25 0 7) fun M9 => lt_bv (f_X9_init d M9 (mN M8)) [] fun M10 => lt_ck M10 o0 26 (lt_m (wP M10 o0 5 (some (mN M8))) fun M11 => lt_m (aNew M11 23 0 7) fun M12 => lt_bv (f_X7_init d M12 (mN M11)) [] fun M13 => lt_ck M13 o0 26 (lt_m (wP M13 o0 6 (some (mN M11))) fun M14 => lt_m (aNew M14 22 0 12) fun M15 => lt_bv (f_X6_init d M15 (mN M14)) [] fun M16 => lt_ck M16 o0 26 (lt_m (wP M16 o0 7 (some (mN M14))) fun M17 => some (.inl none, M17)))))))) :=
  (lx_ev (d := d) (m := 73) (hs := []) 34 0 [.ref o0] [] M).symm
set_option maxRecDepth 100000 in
set_option maxHeartbeats 4000000 in
theorem e_X10_setKey (d : Nat) (M : LM) (o0 : Nat) (x1 : Int32) (x2 : Int32) (x3 : Int32) (x4 : Int32) : f_X10_setKey (d + 1) M o0 x1 x2 x3 x4 = lt_bv (f_X10_checkKey d M x1) [] fun M1 => lt_bv (f_X10_checkRange d M1 x2 1 8) [] fun M2 => lt_bv (f_X10_checkRange d M2 x3 0 1000) [] fun M3 => lt_bv (f_X10_checkRange d M3 x4 0 3) [] fun M4 => lt_ck M4 o0 26 (lt_rf (mP M4 o0 0) fun q5 => lt_ck M4 q5 16 (lt_bi (f_X0_isAnywhere d M4 q5 x1) [] fun v7 M6 => if @Eq Int32 v7 0 then (lt_ck M6 o0 26 (lt_bv (f_X10_beginChange d M6 o0) [] fun M8 => lt_ck M8 o0 26 (lt_rf (mP M8 o0 0) fun q9 => lt_ck M8 q9 16 (lt_rf (mP M8 q9 0) fun q10 => lt_ck M8 q10 19 (lt_bi (f_X3_tell d M8 q10 x1 x2 x3 x4) [] fun v12 M11 => some (.inl (some (.int v12)), M11)))))) else (some (.inr 2, aExn M6)))) :=
  (lx_ev (d := d) (m := 74) (hs := []) 33 0 [.ref o0, .int x1, .int x2, .int x3, .int x4] [] M).symm
set_option maxRecDepth 100000 in
set_option maxHeartbeats 4000000 in
theorem e_X10_pass (d : Nat) (M : LM) (o0 : Nat) (x1 : Int32) : f_X10_pass (d + 1) M o0 x1 = lt_bv (f_X10_checkRange d M x1 1 1000) [] fun M1 => lt_ck M1 o0 26 (lt_bv (f_X10_beginChange d M1 o0) [] fun M2 => lt_ck M2 o0 26 (lt_rf (mP M2 o0 0) fun q3 => lt_ck M2 q3 16 (lt_ck M2 q3 16 (lt_m (wI M2 q3 4 ((mI M2 q3 4) + x1)) fun M4 => lt_ck M4 o0 26 (lt_rf (mP M4 o0 0) fun q5 => lt_ck M4 o0 26 (lt_rf (mP M4 o0 0) fun q6 => lt_ck M4 q6 16 (lt_ck M4 q5 16 (lt_bi (f_X0_lapseAt d M4 q5 (mI M4 q6 4)) [] fun v8 M7 => some (.inl (some (.int v8)), M7))))))))) :=
  (lx_ev (d := d) (m := 75) (hs := []) 22 0 [.ref o0, .int x1] [] M).symm
set_option maxRecDepth 100000 in
set_option maxHeartbeats 4000000 in
theorem e_X10_request (d : Nat) (M : LM) (o0 : Nat) (x1 : Int32) (x2 : Int32) : f_X10_request (d + 1) M o0 x1 x2 = lt_bv (f_X10_checkKey d M x1) [] fun M1 => lt_ck M1 o0 26 (lt_bv (f_X10_checkRowTakes d M1 o0 1) [] fun M2 => lt_ck M2 o0 26 (lt_bv (f_X10_beginChange d M2 o0) [] fun M3 => lt_ck M3 o0 26 (lt_rf (mP M3 o0 0) fun q4 => lt_ck M3 q4 16 (lt_bi (f_X0_ask d M3 q4 x1 x2) [] fun v6 M5 => some (.inl (some (.int v6)), M5))))) :=
  (lx_ev (d := d) (m := 76) (hs := []) 15 0 [.ref o0, .int x1, .int x2] [] M).symm
set_option maxRecDepth 100000 in
set_option maxHeartbeats 4000000 in
theorem e_X10_draw (d : Nat) (M : LM) (o0 : Nat) (x1 : Int32) (x2 : Int32) (x3 : Int32) (x4 : Int32) : f_X10_draw (d + 1) M o0 x1 x2 x3 x4 = lt_bv (f_X10_checkRange d M x2 1 50) [] fun M1 => lt_bv (f_X10_checkRange d M1 x3 1 26) [] fun M2 => lt_bv (f_X10_checkRange d M2 x4 0 100) [] fun M3 => lt_ck M3 o0 26 (lt_bv (f_X10_checkRowTakes d M3 o0 x2) [] fun M4 => lt_ck M4 o0 26 (lt_bv (f_X10_beginChange d M4 o0) [] fun M5 => f_X10_draw_40 (d + 1) M5 o0 x2 x3 x4 0 x1 0)) :=
  (lx_ev (d := d) (m := 77) (hs := [40, 68]) 68 0 [.ref o0, .int x1, .int x2, .int x3, .int x4, lt_j, lt_j, lt_j, lt_j, lt_j] [] M).symm
set_option maxRecDepth 100000 in
set_option maxHeartbeats 4000000 in
theorem e_X10_draw_40 (d : Nat) (M : LM) (o0 : Nat) (x2 : Int32) (x3 : Int32) (x4 : Int32) (x5 : Int32) (x6 : Int32) (x7 : Int32) : f_X10_draw_40 (d + 1) M o0 x2 x3 x4 x5 x6 x7 = if @LT.lt Int32 _ x7 x2 then (lt_bi (f_X10_nextDraw d M x6) [] fun v7 M6 => if @LT.lt Int32 _ 0 x3 then (lt_nz x3 (f_X10_draw_68 (d + 1) M6 o0 x2 x3 x4 x5 v7 x7 ((lt_us v7 16) - (lt_us v7 16) / x3 * x3))) else (f_X10_draw_68 (d + 1) M6 o0 x2 x3 x4 x5 v7 x7 0)) else (some (.inl (some (.int x5)), M)) :=
  (lx_ev (d := d) (m := 77) (hs := [40, 68]) 68 40 [.ref o0, lt_j, .int x2, .int x3, .int x4, .int x5, .int x6, .int x7, lt_j, lt_j] [] M).symm
set_option maxRecDepth 100000 in
set_option maxHeartbeats 4000000 in
theorem e_X10_draw_68 (d : Nat) (M : LM) (o0 : Nat) (x2 : Int32) (x3 : Int32) (x4 : Int32) (x5 : Int32) (x6 : Int32) (x7 : Int32) (s0 : Int32) : f_X10_draw_68 (d + 1) M o0 x2 x3 x4 x5 x6 x7 s0 = lt_bi (f_X10_nextDraw d M x6) [] fun v9 M8 => lt_nz 100 (if @LT.lt Int32 _ ((lt_us v9 16) - (lt_us v9 16) / 100 * 100) x4 then (lt_ck M8 o0 26 (lt_rf (mP M8 o0 0) fun q15 => lt_ck M8 q15 16 (lt_bi (f_X0_ask d M8 q15 s0 1) [] fun v17 M16 => lt_bi (f_J6_bitCount_0f7a4 d M16 v17) [] fun v19 M18 => f_X10_draw_40 (d + 1) M18 o0 x2 x3 x4 (x5 + v19) v9 (x7 + 1)))) else (lt_ck M8 o0 26 (lt_rf (mP M8 o0 0) fun q10 => lt_ck M8 q10 16 (lt_bi (f_X0_ask d M8 q10 s0 0) [] fun v12 M11 => lt_bi (f_J6_bitCount_0f7a4 d M11 v12) [] fun v14 M13 => f_X10_draw_40 (d + 1) M13 o0 x2 x3 x4 (x5 + v14) v9 (x7 + 1))))) :=
  (lx_ev (d := d) (m := 77) (hs := [40, 68]) 68 68 [.ref o0, lt_j, .int x2, .int x3, .int x4, .int x5, .int x6, .int x7, lt_j, lt_j] [.int s0] M).symm
set_option maxRecDepth 100000 in
set_option maxHeartbeats 4000000 in
theorem e_X10_clearRow (d : Nat) (M : LM) (o0 : Nat) : f_X10_clearRow (d + 1) M o0 = lt_ck M o0 26 (lt_bv (f_X10_beginChange d M o0) [] fun M1 => lt_ck M1 o0 26 (lt_rf (mP M1 o0 0) fun q2 => lt_ck M1 q2 16 (lt_rf (mP M1 q2 1) fun q3 => lt_ck M1 q3 20 (lt_ck M1 o0 26 (lt_rf (mP M1 o0 0) fun q4 => lt_ck M1 q4 16 (lt_rf (mP M1 q4 1) fun q5 => lt_ck M1 q5 20 (lt_m (wI M1 q5 3 0) fun M6 => lt_ck M6 o0 26 (lt_rf (mP M6 o0 0) fun q7 => lt_ck M6 q7 16 (lt_bv (f_X0_emptyCaches d M6 q7) [] fun M8 => some (.inl (some (.int (mI M1 q3 3))), M8)))))))))) :=
  (lx_ev (d := d) (m := 78) (hs := []) 19 0 [.ref o0, lt_j] [] M).symm
set_option maxRecDepth 100000 in
set_option maxHeartbeats 4000000 in
theorem e_X10_setCache (d : Nat) (M : LM) (o0 : Nat) (x1 : Int32) (x2 : Int32) (x3 : Int32) (x4 : Int32) (x5 : Int32) : f_X10_setCache (d + 1) M o0 x1 x2 x3 x4 x5 = lt_bv (f_X10_checkCache d M x1) [] fun M1 => lt_bv (f_X10_checkRange d M1 x2 0 6) [] fun M2 => lt_bv (f_X10_checkRange d M2 x3 1 20) [] fun M3 => lt_bv (f_X10_checkRange d M3 x4 0 1000) [] fun M4 => lt_bv (f_X10_checkRange d M4 x5 0 3) [] fun M5 => lt_ck M5 o0 26 (lt_bv (f_X10_beginChange d M5 o0) [] fun M6 => lt_ck M6 o0 26 (lt_rf (mP M6 o0 0) fun q7 => lt_ck M6 q7 16 (lt_br (f_X0_cache d M6 q7 x1) [] fun q9 M8 => lt_ck M8 q9 17 (lt_bi (f_J6_bitCount_0f7a4 d M8 (mI M8 q9 5)) [] fun v11 M10 => lt_ck M10 q9 17 (lt_bv (f_X1_setUp d M10 q9 x2 x3 x4 x5) [] fun M12 => lt_ck M12 o0 26 (lt_rf (mP M12 o0 0) fun q13 => lt_ck M12 q13 16 (lt_rf (mP M12 q13 1) fun q14 => lt_ck M12 q14 20 (lt_ck M12 q9 17 (lt_bv (f_X1_empty d M12 q9 (mI M12 q14 3)) [] fun M15 => some (.inl (some (.int v11)), M15)))))))))) :=
  (lx_ev (d := d) (m := 79) (hs := []) 45 0 [.ref o0, .int x1, .int x2, .int x3, .int x4, .int x5, lt_j, lt_j] [] M).symm
set_option maxRecDepth 100000 in
set_option maxHeartbeats 4000000 in
theorem e_X10_setShares (d : Nat) (M : LM) (o0 : Nat) (x1 : Int32) (x2 : Int32) (x3 : Int32) (x4 : Int32) (x5 : Int32) : f_X10_setShares (d + 1) M o0 x1 x2 x3 x4 x5 = lt_bv (f_X10_checkCache d M x1) [] fun M1 => lt_ck M1 o0 26 (lt_rf (mP M1 o0 0) fun q2 => lt_ck M1 q2 16 (lt_br (f_X0_cache d M1 q2 x1) [] fun q4 M3 => lt_ck M3 q4 17 (lt_bv (f_X10_checkRange d M3 x2 0 (mI M3 q4 1)) [] fun M5 => lt_ck M5 q4 17 (lt_bv (f_X10_checkRange d M5 x3 0 ((mI M5 q4 1) - x2)) [] fun M6 => lt_ck M6 q4 17 (lt_bv (f_X10_checkRange d M6 x4 0 (((mI M6 q4 1) - x2) - x3)) [] fun M7 => lt_ck M7 q4 17 (lt_bv (f_X10_checkRange d M7 x5 0 ((((mI M7 q4 1) - x2) - x3) - x4)) [] fun M8 => lt_ck M8 o0 26 (lt_bv (f_X10_beginChange d M8 o0) [] fun M9 => lt_ck M9 q4 17 (lt_bv (f_X1_share d M9 q4 x2 x3 x4 x5) [] fun M10 => lt_ck M10 o0 26 (lt_rf (mP M10 o0 0) fun q11 => lt_ck M10 q11 16 (lt_rf (mP M10 q11 0) fun q12 => lt_ck M10 q4 17 (lt_ck M10 q4 17 (lt_bi (f_X1_ownersBeyond d M10 q4 q12 (mI M10 q4 5)) [] fun v14 M13 => lt_bi (f_J6_bitCount_0f7a4 d M13 v14) [] fun v16 M15 => some (.inl (some (.int v16)), M15))))))))))))) :=
  (lx_ev (d := d) (m := 80) (hs := []) 58 0 [.ref o0, .int x1, .int x2, .int x3, .int x4, .int x5, lt_j] [] M).symm
set_option maxRecDepth 100000 in
set_option maxHeartbeats 4000000 in
theorem e_X10_flush (d : Nat) (M : LM) (o0 : Nat) (x1 : Int32) : f_X10_flush (d + 1) M o0 x1 = lt_bv (f_X10_checkCache d M x1) [] fun M1 => lt_ck M1 o0 26 (lt_bv (f_X10_beginChange d M1 o0) [] fun M2 => lt_ck M2 o0 26 (lt_rf (mP M2 o0 0) fun q3 => lt_ck M2 q3 16 (lt_br (f_X0_cache d M2 q3 x1) [] fun q5 M4 => lt_ck M4 q5 17 (lt_bi (f_X1_writeDirty d M4 q5) [] fun v7 M6 => some (.inl (some (.int v7)), M6))))) :=
  (lx_ev (d := d) (m := 81) (hs := []) 12 0 [.ref o0, .int x1] [] M).symm
set_option maxRecDepth 100000 in
set_option maxHeartbeats 4000000 in
theorem e_X10_replay (d : Nat) (M : LM) (o0 : Nat) : f_X10_replay (d + 1) M o0 = lt_ck M o0 26 (lt_bv (f_X10_beginChange d M o0) [] fun M1 => lt_ck M1 o0 26 (lt_rf (mP M1 o0 0) fun q2 => lt_ck M1 q2 16 (lt_bi (f_X0_feedAnew d M1 q2) [] fun v4 M3 => some (.inl (some (.int v4)), M3)))) :=
  (lx_ev (d := d) (m := 82) (hs := []) 8 0 [.ref o0] [] M).symm
set_option maxRecDepth 100000 in
set_option maxHeartbeats 4000000 in
theorem e_X10_undo (d : Nat) (M : LM) (o0 : Nat) : f_X10_undo (d + 1) M o0 = lt_ck M o0 26 (if @LT.lt Int32 _ 0 (mI M o0 3) then (lt_ck M o0 26 (lt_rf (mP M o0 4) fun q1 => lt_ck M q1 18 (lt_bv (f_X2_close d M q1) [] fun M2 => lt_ck M2 o0 26 (lt_ck M2 o0 26 (lt_m (wI M2 o0 3 ((mI M2 o0 3) - 1)) fun M3 => lt_ck M3 o0 26 (if @LT.lt Int32 _ 0 (mI M3 o0 2) then (lt_ck M3 o0 26 (f_X10_undo_50 (d + 1) M3 o0 ((mI M3 o0 2) - 1) o0)) else (f_X10_undo_50 (d + 1) M3 o0 5 o0))))))) else (some (.inr 2, aExn M))) :=
  (lx_ev (d := d) (m := 83) (hs := [50]) 49 0 [.ref o0, lt_j] [] M).symm
set_option maxRecDepth 100000 in
set_option maxHeartbeats 4000000 in
theorem e_X10_undo_50 (d : Nat) (M : LM) (o0 : Nat) (s0 : Int32) (s1 : Nat) : f_X10_undo_50 (d + 1) M o0 s0 s1 = lt_ck M s1 26 (lt_m (wI M s1 2 s0) fun M4 => lt_ck M4 o0 26 (lt_ck M4 o0 26 (lt_rf (mP M4 o0 1) fun q5 => lt_al M4 q5 (if @LT.lt Int32 _ (mI M4 o0 2) (nI (mZ M4 q5)) then (lt_ck M4 o0 26 (lt_rf (mP M4 o0 1) fun q6 => lt_ck M4 o0 26 (lt_aa M4 q6 (mI M4 o0 2) (lt_rn (mP M4 q6 (lt_n (mI M4 o0 2))) (fun q7 => lt_ck M4 o0 26 (lt_rf (mP M4 o0 0) fun q8 => lt_ck M4 q8 16 (lt_bv (f_X0_copyBench d M4 q8 q7) [] fun M9 => lt_ck M9 o0 26 (some (.inl (some (.int (mI M9 o0 3))), M9))))) (lt_ck M4 o0 26 (some (.inl (some (.int (mI M4 o0 3))), M4))))))) else (lt_ck M4 o0 26 (some (.inl (some (.int (mI M4 o0 3))), M4))))))) :=
  (lx_ev (d := d) (m := 83) (hs := [50]) 49 50 [.ref o0, lt_j] [.int s0, .ref s1] M).symm
set_option maxRecDepth 100000 in
set_option maxHeartbeats 4000000 in
theorem e_X10_keyAt (d : Nat) (M : LM) (o0 : Nat) (x1 : Int32) (x2 : Int32) : f_X10_keyAt (d + 1) M o0 x1 x2 = lt_bv (f_X10_checkKey d M x1) [] fun M1 => lt_bv (f_X10_checkRange d M1 x2 0 3) [] fun M2 => if Int32.toInt x2 = 0 then (lt_ck M2 o0 26 (lt_rf (mP M2 o0 0) fun q3 => lt_ck M2 q3 16 (lt_rf (mP M2 q3 0) fun q4 => lt_ck M2 q4 19 (lt_rf (mP M2 q4 0) fun q5 => lt_bi (f_X10_at d M2 q5 x1) [] fun v7 M6 => some (.inl (some (.int v7)), M6))))) else if Int32.toInt x2 = 1 then (lt_ck M2 o0 26 (lt_rf (mP M2 o0 0) fun q8 => lt_ck M2 q8 16 (lt_rf (mP M2 q8 0) fun q9 => lt_ck M2 q9 19 (lt_rf (mP M2 q9 1) fun q10 => lt_bi (f_X10_at d M2 q10 x1) [] fun v12 M11 => some (.inl (some (.int v12)), M11))))) else if Int32.toInt x2 = 2 then (lt_ck M2 o0 26 (lt_rf (mP M2 o0 0) fun q13 => lt_ck M2 q13 16 (lt_rf (mP M2 q13 0) fun q14 => lt_ck M2 q14 19 (lt_rf (mP M2 q14 2) fun q15 => lt_bi (f_X10_at d M2 q15 x1) [] fun v17 M16 => some (.inl (some (.int v17)), M16))))) else (lt_ck M2 o0 26 (lt_rf (mP M2 o0 0) fun q18 => lt_ck M2 q18 16 (lt_rf (mP M2 q18 1) fun q19 => lt_ck M2 q19 20 (lt_bi (f_X4_timesAsked d M2 q19 x1) [] fun v21 M20 => some (.inl (some (.int v21)), M20))))) :=
  (lx_ev (d := d) (m := 84) (hs := []) 37 0 [.ref o0, .int x1, .int x2] [] M).symm
set_option maxRecDepth 100000 in
set_option maxHeartbeats 4000000 in
theorem e_X10_holds (d : Nat) (M : LM) (o0 : Nat) (x1 : Int32) (x2 : Int32) : f_X10_holds (d + 1) M o0 x1 x2 = lt_bv (f_X10_checkCache d M x1) [] fun M1 => lt_bv (f_X10_checkKey d M1 x2) [] fun M2 => lt_ck M2 o0 26 (lt_rf (mP M2 o0 0) fun q3 => lt_ck M2 q3 16 (lt_br (f_X0_cache d M2 q3 x1) [] fun q5 M4 => lt_ck M4 q5 17 (lt_bi (f_X10_has d M4 (mI M4 q5 5) x2) [] fun v7 M6 => lt_b1 v7 (some (.inl (some (.int v7)), M6))))) :=
  (lx_ev (d := d) (m := 85) (hs := []) 14 0 [.ref o0, .int x1, .int x2] [] M).symm
set_option maxRecDepth 100000 in
set_option maxHeartbeats 4000000 in
theorem e_X10_isDirty (d : Nat) (M : LM) (o0 : Nat) (x1 : Int32) (x2 : Int32) : f_X10_isDirty (d + 1) M o0 x1 x2 = lt_bv (f_X10_checkCache d M x1) [] fun M1 => lt_bv (f_X10_checkKey d M1 x2) [] fun M2 => lt_ck M2 o0 26 (lt_rf (mP M2 o0 0) fun q3 => lt_ck M2 q3 16 (lt_br (f_X0_cache d M2 q3 x1) [] fun q5 M4 => lt_ck M4 q5 17 (lt_bi (f_X10_has d M4 (mI M4 q5 6) x2) [] fun v7 M6 => lt_b1 v7 (some (.inl (some (.int v7)), M6))))) :=
  (lx_ev (d := d) (m := 86) (hs := []) 14 0 [.ref o0, .int x1, .int x2] [] M).symm
set_option maxRecDepth 100000 in
set_option maxHeartbeats 4000000 in
theorem e_X10_cacheAt (d : Nat) (M : LM) (o0 : Nat) (x1 : Int32) (x2 : Int32) : f_X10_cacheAt (d + 1) M o0 x1 x2 = lt_bv (f_X10_checkCache d M x1) [] fun M1 => lt_bv (f_X10_checkRange d M1 x2 0 7) [] fun M2 => lt_ck M2 o0 26 (lt_rf (mP M2 o0 0) fun q3 => lt_ck M2 q3 16 (lt_br (f_X0_cache d M2 q3 x1) [] fun q5 M4 => if Int32.toInt x2 = 0 then (lt_ck M4 q5 17 (some (.inl (some (.int (mI M4 q5 0))), M4))) else if Int32.toInt x2 = 1 then (lt_ck M4 q5 17 (some (.inl (some (.int (mI M4 q5 1))), M4))) else if Int32.toInt x2 = 2 then (lt_ck M4 q5 17 (some (.inl (some (.int (mI M4 q5 2))), M4))) else if Int32.toInt x2 = 3 then (lt_ck M4 q5 17 (some (.inl (some (.int (mI M4 q5 3))), M4))) else if Int32.toInt x2 = 4 then (lt_ck M4 q5 17 (lt_bi (f_J6_bitCount_0f7a4 d M4 (mI M4 q5 5)) [] fun v7 M6 => some (.inl (some (.int v7)), M6))) else if Int32.toInt x2 = 5 then (lt_ck M4 o0 26 (lt_rf (mP M4 o0 0) fun q8 => lt_ck M4 q8 16 (lt_rf (mP M4 q8 0) fun q9 => lt_ck M4 q5 17 (lt_ck M4 q9 19 (lt_bi (f_X3_units d M4 q9 (mI M4 q5 5)) [] fun v11 M10 => some (.inl (some (.int v11)), M10)))))) else if Int32.toInt x2 = 6 then (lt_ck M4 q5 17 (lt_bi (f_J6_bitCount_0f7a4 d M4 (mI M4 q5 6)) [] fun v13 M12 => some (.inl (some (.int v13)), M12))) else (lt_ck M4 q5 17 (lt_bi (f_J6_bitCount_0f7a4 d M4 (mI M4 q5 10)) [] fun v15 M14 => some (.inl (some (.int v15)), M14))))) :=
  (lx_ev (d := d) (m := 87) (hs := []) 46 0 [.ref o0, .int x1, .int x2, lt_j] [] M).symm
set_option maxRecDepth 100000 in
set_option maxHeartbeats 4000000 in
theorem e_X10_keyInOrder (d : Nat) (M : LM) (o0 : Nat) (x1 : Int32) (x2 : Int32) : f_X10_keyInOrder (d + 1) M o0 x1 x2 = lt_bv (f_X10_checkCache d M x1) [] fun M1 => lt_ck M1 o0 26 (lt_rf (mP M1 o0 0) fun q2 => lt_ck M1 q2 16 (lt_br (f_X0_cache d M1 q2 x1) [] fun q4 M3 => if @LT.lt Int32 _ x2 0 then (some (.inr 3, aExn M3)) else (lt_ck M3 q4 17 (lt_bi (f_J6_bitCount_0f7a4 d M3 (mI M3 q4 5)) [] fun v6 M5 => if @LT.lt Int32 _ x2 v6 then (lt_ck M5 q4 17 (f_X10_keyInOrder_45 (d + 1) M5 x2 q4 (mI M5 q4 5) 0)) else (some (.inr 3, aExn M5)))))) :=
  (lx_ev (d := d) (m := 88) (hs := [45]) 40 0 [.ref o0, .int x1, .int x2, lt_j, lt_j, lt_j] [] M).symm
set_option maxRecDepth 100000 in
set_option maxHeartbeats 4000000 in
theorem e_X10_keyInOrder_45 (d : Nat) (M : LM) (x2 : Int32) (o3 : Nat) (x4 : Int32) (x5 : Int32) : f_X10_keyInOrder_45 (d + 1) M x2 o3 x4 x5 = if @LT.lt Int32 _ x5 x2 then (lt_ck M o3 17 (lt_bi (f_X1_firstOf d M o3 x4) [] fun v10 M9 => lt_bi (f_X10_bit d M9 v10) [] fun v12 M11 => f_X10_keyInOrder_45 (d + 1) M11 x2 o3 (x4 &&& (v12 ^^^ ((-1)))) (x5 + 1))) else (lt_ck M o3 17 (lt_bi (f_X1_firstOf d M o3 x4) [] fun v8 M7 => some (.inl (some (.int v8)), M7))) :=
  (lx_ev (d := d) (m := 88) (hs := [45]) 40 45 [lt_j, lt_j, .int x2, .ref o3, .int x4, .int x5] [] M).symm
set_option maxRecDepth 100000 in
set_option maxHeartbeats 4000000 in
theorem e_X10_victim (d : Nat) (M : LM) (o0 : Nat) (x1 : Int32) (x2 : Int32) : f_X10_victim (d + 1) M o0 x1 x2 = lt_bv (f_X10_checkCache d M x1) [] fun M1 => lt_bv (f_X10_checkKey d M1 x2) [] fun M2 => lt_ck M2 o0 26 (lt_rf (mP M2 o0 0) fun q3 => lt_ck M2 q3 16 (lt_br (f_X0_cache d M2 q3 x1) [] fun q5 M4 => lt_ck M4 o0 26 (lt_rf (mP M4 o0 0) fun q6 => lt_ck M4 q6 16 (lt_rf (mP M4 q6 0) fun q7 => lt_ck M4 q5 17 (lt_bi (f_X1_firstOutFor d M4 q5 q7 x2) [] fun v9 M8 => some (.inl (some (.int v9)), M8)))))) :=
  (lx_ev (d := d) (m := 89) (hs := []) 16 0 [.ref o0, .int x1, .int x2] [] M).symm
set_option maxRecDepth 100000 in
set_option maxHeartbeats 4000000 in
theorem e_X10_count (d : Nat) (M : LM) (o0 : Nat) (x1 : Int32) (x2 : Int32) : f_X10_count (d + 1) M o0 x1 x2 = lt_bv (f_X10_checkCache d M x1) [] fun M1 => lt_bv (f_X10_checkRange d M1 x2 0 8) [] fun M2 => lt_ck M2 o0 26 (lt_rf (mP M2 o0 0) fun q3 => lt_ck M2 q3 16 (lt_br (f_X0_cache d M2 q3 x1) [] fun q5 M4 => lt_ck M4 q5 17 (lt_rf (mP M4 q5 17) fun q6 => lt_ck M4 q6 24 (lt_rf (mP M4 q6 0) fun q7 => lt_bi (f_X10_at d M4 q7 x2) [] fun v9 M8 => some (.inl (some (.int v9)), M8))))) :=
  (lx_ev (d := d) (m := 90) (hs := []) 17 0 [.ref o0, .int x1, .int x2] [] M).symm
set_option maxRecDepth 100000 in
set_option maxHeartbeats 4000000 in
theorem e_X10_countOf (d : Nat) (M : LM) (o0 : Nat) (x1 : Int32) (x2 : Int32) (x3 : Int32) : f_X10_countOf (d + 1) M o0 x1 x2 x3 = lt_bv (f_X10_checkCache d M x1) [] fun M1 => lt_bv (f_X10_checkKey d M1 x2) [] fun M2 => lt_ck M2 o0 26 (lt_rf (mP M2 o0 0) fun q3 => lt_ck M2 q3 16 (lt_br (f_X0_cache d M2 q3 x1) [] fun q5 M4 => lt_ck M4 q5 17 (lt_rf (mP M4 q5 17) fun q6 => if @Eq Int32 x3 0 then (lt_ck M4 q6 24 (lt_rf (mP M4 q6 2) fun q7 => lt_bi (f_X10_at d M4 q7 x2) [] fun v9 M8 => some (.inl (some (.int v9)), M8))) else (lt_ck M4 q6 24 (lt_rf (mP M4 q6 1) fun q10 => lt_bi (f_X10_at d M4 q10 x2) [] fun v12 M11 => some (.inl (some (.int v12)), M11)))))) :=
  (lx_ev (d := d) (m := 91) (hs := []) 22 0 [.ref o0, .int x1, .int x2, .int x3, lt_j] [] M).symm
set_option maxRecDepth 100000 in
set_option maxHeartbeats 4000000 in
theorem e_X10_hitsBetween (d : Nat) (M : LM) (o0 : Nat) (x1 : Int32) (x2 : Int32) (x3 : Int32) : f_X10_hitsBetween (d + 1) M o0 x1 x2 x3 = lt_bv (f_X10_checkCache d M x1) [] fun M1 => lt_ck M1 o0 26 (lt_bv (f_X10_checkRequest d M1 o0 x2) [] fun M2 => lt_ck M2 o0 26 (lt_bv (f_X10_checkRequest d M2 o0 x3) [] fun M3 => if @LT.lt Int32 _ x3 x2 then (some (.inr 1, aExn M3)) else (lt_ck M3 o0 26 (lt_rf (mP M3 o0 0) fun q4 => lt_ck M3 q4 16 (lt_br (f_X0_cache d M3 q4 x1) [] fun q6 M5 => lt_ck M5 q6 17 (lt_rf (mP M5 q6 17) fun q7 => f_X10_hitsBetween_46 (d + 1) M5 x3 q7 0 x2)))))) :=
  (lx_ev (d := d) (m := 92) (hs := [46]) 39 0 [.ref o0, .int x1, .int x2, .int x3, lt_j, lt_j, lt_j] [] M).symm
set_option maxRecDepth 100000 in
set_option maxHeartbeats 4000000 in
theorem e_X10_hitsBetween_46 (d : Nat) (M : LM) (x3 : Int32) (o4 : Nat) (x5 : Int32) (x6 : Int32) : f_X10_hitsBetween_46 (d + 1) M x3 o4 x5 x6 = if @LT.lt Int32 _ x3 x6 then (some (.inl (some (.int x5)), M)) else (if @LT.lt Int32 _ x6 300 then (lt_ck M o4 24 (lt_bi (f_X8_outcomeAt d M o4 x6) [] fun v9 M8 => if @Eq Int32 v9 0 then (f_X10_hitsBetween_46 (d + 1) M8 x3 o4 (x5 + 1) (x6 + 1)) else (f_X10_hitsBetween_46 (d + 1) M8 x3 o4 x5 (x6 + 1)))) else (some (.inl (some (.int x5)), M))) :=
  (lx_ev (d := d) (m := 92) (hs := [46]) 39 46 [lt_j, lt_j, lt_j, .int x3, .ref o4, .int x5, .int x6] [] M).symm
set_option maxRecDepth 100000 in
set_option maxHeartbeats 4000000 in
theorem e_X10_distance (d : Nat) (M : LM) (o0 : Nat) (x1 : Int32) : f_X10_distance (d + 1) M o0 x1 = lt_ck M o0 26 (lt_bv (f_X10_checkRequest d M o0 x1) [] fun M1 => lt_ck M1 o0 26 (lt_rf (mP M1 o0 0) fun q2 => lt_ck M1 q2 16 (lt_rf (mP M1 q2 1) fun q3 => lt_ck M1 q3 20 (lt_bi (f_X4_distanceOf d M1 q3 x1) [] fun v5 M4 => some (.inl (some (.int v5)), M4))))) :=
  (lx_ev (d := d) (m := 93) (hs := []) 11 0 [.ref o0, .int x1] [] M).symm
set_option maxRecDepth 100000 in
set_option maxHeartbeats 4000000 in
theorem e_X10_hits (d : Nat) (M : LM) (o0 : Nat) (x1 : Int32) (x2 : Int32) : f_X10_hits (d + 1) M o0 x1 x2 = lt_bv (f_X10_checkStudyRule d M x1) [] fun M1 => lt_bv (f_X10_checkRange d M1 x2 1 26) [] fun M2 => lt_ck M2 o0 26 (lt_rf (mP M2 o0 6) fun q3 => lt_ck M2 o0 26 (lt_rf (mP M2 o0 0) fun q4 => lt_ck M2 q4 16 (lt_rf (mP M2 q4 1) fun q5 => lt_ck M2 q3 23 (lt_bi (f_X7_hitsBy d M2 q3 q5 x1 x2) [] fun v7 M6 => some (.inl (some (.int v7)), M6))))) :=
  (lx_ev (d := d) (m := 94) (hs := []) 17 0 [.ref o0, .int x1, .int x2] [] M).symm
set_option maxRecDepth 100000 in
set_option maxHeartbeats 4000000 in
theorem e_X10_holdsAfter (d : Nat) (M : LM) (o0 : Nat) (x1 : Int32) (x2 : Int32) (x3 : Int32) (x4 : Int32) : f_X10_holdsAfter (d + 1) M o0 x1 x2 x3 x4 = lt_bv (f_X10_checkKey d M x4) [] fun M1 => lt_bv (f_X10_checkStudyRule d M1 x1) [] fun M2 => lt_bv (f_X10_checkRange d M2 x2 1 26) [] fun M3 => lt_ck M3 o0 26 (lt_rf (mP M3 o0 0) fun q4 => lt_ck M3 q4 16 (lt_rf (mP M3 q4 1) fun q5 => lt_ck M3 q5 20 (lt_bv (f_X10_checkRange d M3 x3 0 (mI M3 q5 3)) [] fun M6 => lt_ck M6 o0 26 (lt_rf (mP M6 o0 6) fun q7 => lt_ck M6 o0 26 (lt_rf (mP M6 o0 0) fun q8 => lt_ck M6 q8 16 (lt_rf (mP M6 q8 1) fun q9 => lt_ck M6 q7 23 (lt_bv (f_X7_feed d M6 q7 q9 x1 x2 x3) [] fun M10 => lt_ck M10 o0 26 (lt_rf (mP M10 o0 6) fun q11 => lt_ck M10 q11 23 (lt_bi (f_X10_has d M10 (mI M10 q11 0) x4) [] fun v13 M12 => lt_b1 v13 (some (.inl (some (.int v13)), M12))))))))))) :=
  (lx_ev (d := d) (m := 95) (hs := []) 32 0 [.ref o0, .int x1, .int x2, .int x3, .int x4] [] M).symm
set_option maxRecDepth 100000 in
set_option maxHeartbeats 4000000 in
theorem e_X10_bestVictim (d : Nat) (M : LM) (o0 : Nat) (x1 : Int32) (x2 : Int32) : f_X10_bestVictim (d + 1) M o0 x1 x2 = lt_ck M o0 26 (lt_bv (f_X10_checkRequest d M o0 x2) [] fun M1 => lt_bv (f_X10_checkRange d M1 x1 1 26) [] fun M2 => lt_ck M2 o0 26 (lt_rf (mP M2 o0 6) fun q3 => lt_ck M2 o0 26 (lt_rf (mP M2 o0 0) fun q4 => lt_ck M2 q4 16 (lt_rf (mP M2 q4 1) fun q5 => lt_ck M2 q3 23 (lt_bv (f_X7_feed d M2 q3 q5 ((-1)) x1 (x2 + 1)) [] fun M6 => lt_ck M6 o0 26 (lt_rf (mP M6 o0 6) fun q7 => lt_ck M6 q7 23 (some (.inl (some (.int (mI M6 q7 1))), M6)))))))) :=
  (lx_ev (d := d) (m := 96) (hs := []) 24 0 [.ref o0, .int x1, .int x2] [] M).symm
set_option maxRecDepth 100000 in
set_option maxHeartbeats 4000000 in
theorem e_X10_phases (d : Nat) (M : LM) (o0 : Nat) (x1 : Int32) : f_X10_phases (d + 1) M o0 x1 = lt_bv (f_X10_checkRange d M x1 1 26) [] fun M1 => lt_ck M1 o0 26 (lt_rf (mP M1 o0 0) fun q2 => lt_ck M1 q2 16 (lt_rf (mP M1 q2 1) fun q3 => lt_ck M1 o0 26 (lt_rf (mP M1 o0 0) fun q4 => lt_ck M1 q4 16 (lt_rf (mP M1 q4 1) fun q5 => lt_ck M1 q5 20 (lt_ck M1 q3 20 (lt_bi (f_X4_phasesUpTo d M1 q3 x1 (mI M1 q5 3)) [] fun v7 M6 => some (.inl (some (.int v7)), M6))))))) :=
  (lx_ev (d := d) (m := 97) (hs := []) 16 0 [.ref o0, .int x1] [] M).symm
set_option maxRecDepth 100000 in
set_option maxHeartbeats 4000000 in
theorem e_X10_phaseOf (d : Nat) (M : LM) (o0 : Nat) (x1 : Int32) (x2 : Int32) : f_X10_phaseOf (d + 1) M o0 x1 x2 = lt_ck M o0 26 (lt_bv (f_X10_checkRequest d M o0 x2) [] fun M1 => lt_bv (f_X10_checkRange d M1 x1 1 26) [] fun M2 => lt_ck M2 o0 26 (lt_rf (mP M2 o0 0) fun q3 => lt_ck M2 q3 16 (lt_rf (mP M2 q3 1) fun q4 => lt_ck M2 q4 20 (lt_bi (f_X4_phasesUpTo d M2 q4 x1 (x2 + 1)) [] fun v6 M5 => some (.inl (some (.int (v6 - 1))), M5))))) :=
  (lx_ev (d := d) (m := 98) (hs := []) 20 0 [.ref o0, .int x1, .int x2] [] M).symm
set_option maxRecDepth 100000 in
set_option maxHeartbeats 4000000 in
theorem e_X10_slack (d : Nat) (M : LM) (o0 : Nat) (x1 : Int32) (x2 : Int32) : f_X10_slack (d + 1) M o0 x1 x2 = lt_bv (f_X10_checkRange d M x1 1 26) [] fun M1 => lt_bv (f_X10_checkRange d M1 x2 1 x1) [] fun M2 => lt_ck M2 o0 26 (lt_rf (mP M2 o0 0) fun q3 => lt_ck M2 q3 16 (lt_rf (mP M2 q3 1) fun q4 => lt_ck M2 q4 20 (lt_ck M2 o0 26 (lt_rf (mP M2 o0 6) fun q5 => lt_ck M2 o0 26 (lt_rf (mP M2 o0 0) fun q6 => lt_ck M2 q6 16 (lt_rf (mP M2 q6 1) fun q7 => lt_ck M2 q5 23 (lt_bi (f_X7_hitsBy d M2 q5 q7 0 x1) [] fun v9 M8 => lt_ck M8 o0 26 (lt_rf (mP M8 o0 0) fun q10 => lt_ck M8 q10 16 (lt_rf (mP M8 q10 1) fun q11 => lt_ck M8 q11 20 (lt_ck M8 o0 26 (lt_rf (mP M8 o0 6) fun q12 => lt_ck M8 o0 26 (lt_rf (mP M8 o0 0) fun q13 => lt_ck M8 q13 16 (lt_rf (mP M8 q13 1) fun q14 => lt_ck M8 q12 23 (lt_bi (f_X7_hitsBy d M8 q12 q14 ((-1)) x2) [] fun v16 M15 => some (.inl (some (.int (((x1 * ((mI M8 q11 3) - v16)) + (((x1 - x2) + 1) * x2)) - (((x1 - x2) + 1) * ((mI M2 q4 3) - v9))))), M15))))))))))))))) :=
  (lx_ev (d := d) (m := 99) (hs := []) 56 0 [.ref o0, .int x1, .int x2, lt_j, lt_j, lt_j] [] M).symm
set_option maxRecDepth 100000 in
set_option maxHeartbeats 4000000 in
theorem e_X10_shame (d : Nat) (M : LM) (o0 : Nat) (x1 : Int32) (x2 : Int32) (x3 : Int32) (x4 : Int32) (x5 : Int32) : f_X10_shame (d + 1) M o0 x1 x2 x3 x4 x5 = lt_bv (f_X10_checkRange d M x1 2 3) [] fun M1 => lt_bv (f_X10_checkRange d M1 x2 1 4) [] fun M2 => lt_bv (f_X10_checkRange d M2 x3 (x2 + 1) 6) [] fun M3 => lt_bv (f_X10_checkRange d M3 x4 2 5) [] fun M4 => if @Eq Int32 x1 3 then (lt_bv (f_X10_checkRange d M4 x5 1 9) [] fun M11 => lt_ck M11 o0 26 (lt_rf (mP M11 o0 7) fun q12 => if @Eq Int32 x1 3 then (lt_ck M11 q12 22 (lt_bi (f_X6_look d M11 q12 1 x2 x3 x4 x5) [] fun v16 M15 => some (.inl (some (.int v16)), M15))) else (lt_ck M11 q12 22 (lt_bi (f_X6_look d M11 q12 0 x2 x3 x4 x5) [] fun v14 M13 => some (.inl (some (.int v14)), M13))))) else (lt_bv (f_X10_checkRange d M4 x5 1 12) [] fun M5 => lt_ck M5 o0 26 (lt_rf (mP M5 o0 7) fun q6 => if @Eq Int32 x1 3 then (lt_ck M5 q6 22 (lt_bi (f_X6_look d M5 q6 1 x2 x3 x4 x5) [] fun v10 M9 => some (.inl (some (.int v10)), M9))) else (lt_ck M5 q6 22 (lt_bi (f_X6_look d M5 q6 0 x2 x3 x4 x5) [] fun v8 M7 => some (.inl (some (.int v8)), M7))))) :=
  (lx_ev (d := d) (m := 100) (hs := []) 43 0 [.ref o0, .int x1, .int x2, .int x3, .int x4, .int x5] [] M).symm
set_option maxRecDepth 100000 in
set_option maxHeartbeats 4000000 in
theorem e_X10_shameAt (d : Nat) (M : LM) (o0 : Nat) (x1 : Int32) : f_X10_shameAt (d + 1) M o0 x1 = if @LT.lt Int32 _ x1 0 then (some (.inr 3, aExn M)) else (lt_ck M o0 26 (lt_rf (mP M o0 7) fun q1 => lt_ck M q1 22 (if @LT.lt Int32 _ x1 (mI M q1 1) then (lt_ck M o0 26 (lt_rf (mP M o0 7) fun q2 => lt_ck M q2 22 (lt_rf (mP M q2 0) fun q3 => lt_bi (f_X10_at d M q3 x1) [] fun v5 M4 => some (.inl (some (.int v5)), M4)))) else (some (.inr 3, aExn M))))) :=
  (lx_ev (d := d) (m := 101) (hs := []) 16 0 [.ref o0, .int x1] [] M).symm
set_option maxRecDepth 100000 in
set_option maxHeartbeats 4000000 in
theorem e_X10_errors (d : Nat) (M : LM) (o0 : Nat) : f_X10_errors (d + 1) M o0 = lt_ck M o0 26 (lt_rf (mP M o0 6) fun q1 => lt_ck M o0 26 (lt_rf (mP M o0 0) fun q2 => lt_ck M q2 16 (lt_rf (mP M q2 1) fun q3 => lt_ck M q1 23 (lt_bi (f_X7_brokenSizes d M q1 q3) [] fun v5 M4 => some (.inl (some (.int v5)), M4))))) :=
  (lx_ev (d := d) (m := 102) (hs := []) 9 0 [.ref o0] [] M).symm
set_option maxRecDepth 100000 in
set_option maxHeartbeats 4000000 in
theorem e_X10_checkKey (d : Nat) (M : LM) (x0 : Int32) : f_X10_checkKey (d + 1) M x0 = if @LT.lt Int32 _ x0 0 then (some (.inr 0, aExn M)) else (if @LT.lt Int32 _ x0 26 then (some (.inl none, M)) else (some (.inr 0, aExn M))) :=
  (lx_ev (d := d) (m := 103) (hs := []) 9 0 [.int x0] [] M).symm
set_option maxRecDepth 100000 in
set_option maxHeartbeats 4000000 in
theorem e_X10_checkCache (d : Nat) (M : LM) (x0 : Int32) : f_X10_checkCache (d + 1) M x0 = if @LT.lt Int32 _ x0 0 then (some (.inr 0, aExn M)) else (if @LT.lt Int32 _ x0 6 then (some (.inl none, M)) else (some (.inr 0, aExn M))) :=
  (lx_ev (d := d) (m := 104) (hs := []) 9 0 [.int x0] [] M).symm
set_option maxRecDepth 100000 in
set_option maxHeartbeats 4000000 in
theorem e_X10_checkRequest (d : Nat) (M : LM) (o0 : Nat) (x1 : Int32) : f_X10_checkRequest (d + 1) M o0 x1 = if @LT.lt Int32 _ x1 0 then (some (.inr 0, aExn M)) else (lt_ck M o0 26 (lt_rf (mP M o0 0) fun q1 => lt_ck M q1 16 (lt_rf (mP M q1 1) fun q2 => lt_ck M q2 20 (if @LT.lt Int32 _ x1 (mI M q2 3) then (some (.inl none, M)) else (some (.inr 0, aExn M)))))) :=
  (lx_ev (d := d) (m := 105) (hs := []) 12 0 [.ref o0, .int x1] [] M).symm
set_option maxRecDepth 100000 in
set_option maxHeartbeats 4000000 in
theorem e_X10_checkRange (d : Nat) (M : LM) (x0 : Int32) (x1 : Int32) (x2 : Int32) : f_X10_checkRange (d + 1) M x0 x1 x2 = if @LT.lt Int32 _ x0 x1 then (some (.inr 1, aExn M)) else (if @LT.lt Int32 _ x2 x0 then (some (.inr 1, aExn M)) else (some (.inl none, M))) :=
  (lx_ev (d := d) (m := 106) (hs := []) 10 0 [.int x0, .int x1, .int x2] [] M).symm
set_option maxRecDepth 100000 in
set_option maxHeartbeats 4000000 in
theorem e_X10_checkStudyRule (d : Nat) (M : LM) (x0 : Int32) : f_X10_checkStudyRule (d + 1) M x0 = if @Eq Int32 x0 ((-1)) then (some (.inl none, M)) else (if @Eq Int32 x0 0 then (some (.inl none, M)) else (if @Eq Int32 x0 1 then (some (.inl none, M)) else (if @Eq Int32 x0 2 then (some (.inl none, M)) else (some (.inr 1, aExn M))))) :=
  (lx_ev (d := d) (m := 107) (hs := []) 15 0 [.int x0] [] M).symm
set_option maxRecDepth 100000 in
set_option maxHeartbeats 4000000 in
theorem e_X10_checkRowTakes (d : Nat) (M : LM) (o0 : Nat) (x1 : Int32) : f_X10_checkRowTakes (d + 1) M o0 x1 = lt_ck M o0 26 (lt_rf (mP M o0 0) fun q1 => lt_ck M q1 16 (lt_rf (mP M q1 1) fun q2 => lt_ck M q2 20 (if @LT.lt Int32 _ (300 - (mI M q2 3)) x1 then (some (.inr 2, aExn M)) else (some (.inl none, M))))) :=
  (lx_ev (d := d) (m := 108) (hs := []) 12 0 [.ref o0, .int x1] [] M).symm
set_option maxRecDepth 100000 in
set_option maxHeartbeats 4000000 in
theorem e_X10_beginChange (d : Nat) (M : LM) (o0 : Nat) : f_X10_beginChange (d + 1) M o0 = lt_ck M o0 26 (lt_rf (mP M o0 4) fun q1 => lt_ck M q1 18 (lt_bv (f_X2_close d M q1) [] fun M2 => lt_ck M2 o0 26 (lt_bv (f_X10_keepForUndo d M2 o0) [] fun M3 => some (.inl none, M3)))) :=
  (lx_ev (d := d) (m := 109) (hs := []) 8 0 [.ref o0] [] M).symm
set_option maxRecDepth 100000 in
set_option maxHeartbeats 4000000 in
theorem e_X10_keepForUndo (d : Nat) (M : LM) (o0 : Nat) : f_X10_keepForUndo (d + 1) M o0 = lt_ck M o0 26 (if @LT.lt Int32 _ (mI M o0 2) 0 then (f_X10_keepForUndo_26 (d + 1) M o0) else (lt_ck M o0 26 (lt_ck M o0 26 (lt_rf (mP M o0 1) fun q1 => lt_al M q1 (if @LT.lt Int32 _ (mI M o0 2) (nI (mZ M q1)) then (lt_ck M o0 26 (f_X10_keepForUndo_27 (d + 1) M o0 (mI M o0 2))) else (f_X10_keepForUndo_26 (d + 1) M o0)))))) :=
  (lx_ev (d := d) (m := 110) (hs := [26, 27, 54]) 61 0 [.ref o0, lt_j, lt_j] [] M).symm
set_option maxRecDepth 100000 in
set_option maxHeartbeats 4000000 in
theorem e_X10_keepForUndo_26 (d : Nat) (M : LM) (o0 : Nat) : f_X10_keepForUndo_26 (d + 1) M o0 = f_X10_keepForUndo_27 (d + 1) M o0 0 :=
  (lx_ev (d := d) (m := 110) (hs := [26, 27, 54]) 61 26 [.ref o0, lt_j, lt_j] [] M).symm
set_option maxRecDepth 100000 in
set_option maxHeartbeats 4000000 in
theorem e_X10_keepForUndo_27 (d : Nat) (M : LM) (o0 : Nat) (s0 : Int32) : f_X10_keepForUndo_27 (d + 1) M o0 s0 = lt_ck M o0 26 (lt_rf (mP M o0 1) fun q2 => lt_aa M q2 s0 (lt_rn (mP M q2 (lt_n s0)) (fun q3 => f_X10_keepForUndo_54 (d + 1) M o0 s0 q3) (lt_m (aNew M 16 0 5) fun M4 => lt_bv (f_X0_init d M4 (mN M)) [] fun M5 => lt_ck M5 o0 26 (lt_rf (mP M5 o0 1) fun q6 => lt_as M5 q6 s0 (mN M) (lt_m (wP M5 q6 (lt_n s0) (some (mN M))) fun M7 => f_X10_keepForUndo_54 (d + 1) M7 o0 s0 (mN M)))))) :=
  (lx_ev (d := d) (m := 110) (hs := [26, 27, 54]) 61 27 [.ref o0, lt_j, lt_j] [.int s0] M).symm
set_option maxRecDepth 100000 in
set_option maxHeartbeats 4000000 in
theorem e_X10_keepForUndo_54 (d : Nat) (M : LM) (o0 : Nat) (x1 : Int32) (o2 : Nat) : f_X10_keepForUndo_54 (d + 1) M o0 x1 o2 = lt_ck M o0 26 (lt_rf (mP M o0 0) fun q8 => lt_ck M o2 16 (lt_bv (f_X0_copyBench d M o2 q8) [] fun M9 => if @LT.lt Int32 _ (x1 + 1) 6 then (lt_ck M9 o0 26 (lt_m (wI M9 o0 2 (x1 + 1)) fun M13 => lt_ck M13 o0 26 (if @LT.lt Int32 _ (mI M13 o0 3) 6 then (lt_ck M13 o0 26 (lt_ck M13 o0 26 (lt_m (wI M13 o0 3 ((mI M13 o0 3) + 1)) fun M15 => some (.inl none, M15)))) else (lt_ck M13 o0 26 (lt_m (wI M13 o0 3 6) fun M14 => some (.inl none, M14)))))) else (lt_ck M9 o0 26 (lt_m (wI M9 o0 2 0) fun M10 => lt_ck M10 o0 26 (if @LT.lt Int32 _ (mI M10 o0 3) 6 then (lt_ck M10 o0 26 (lt_ck M10 o0 26 (lt_m (wI M10 o0 3 ((mI M10 o0 3) + 1)) fun M12 => some (.inl none, M12)))) else (lt_ck M10 o0 26 (lt_m (wI M10 o0 3 6) fun M11 => some (.inl none, M11)))))))) :=
  (lx_ev (d := d) (m := 110) (hs := [26, 27, 54]) 61 54 [.ref o0, .int x1, .ref o2] [] M).symm
set_option maxRecDepth 100000 in
set_option maxHeartbeats 4000000 in
theorem e_X10_nextDraw (d : Nat) (M : LM) (x0 : Int32) : f_X10_nextDraw (d + 1) M x0 = some (.inl (some (.int ((x0 * 1103515245) + 12345))), M) :=
  (lx_ev (d := d) (m := 111) (hs := []) 8 0 [.int x0] [] M).symm
set_option maxRecDepth 100000 in
set_option maxHeartbeats 4000000 in
theorem e_X10_bit (d : Nat) (M : LM) (x0 : Int32) : f_X10_bit (d + 1) M x0 = if @LT.lt Int32 _ x0 0 then (some (.inl (some (.int 0)), M)) else (if @LT.lt Int32 _ x0 26 then (some (.inl (some (.int (1 <<< (x0 &&& 31)))), M)) else (some (.inl (some (.int 0)), M))) :=
  (lx_ev (d := d) (m := 112) (hs := []) 13 0 [.int x0] [] M).symm
set_option maxRecDepth 100000 in
set_option maxHeartbeats 4000000 in
theorem e_X10_has (d : Nat) (M : LM) (x0 : Int32) (x1 : Int32) : f_X10_has (d + 1) M x0 x1 = if @LT.lt Int32 _ x1 0 then (lt_b1 0 (some (.inl (some (.int 0)), M))) else (if @LT.lt Int32 _ x1 26 then (if @Eq Int32 ((x0 >>> (x1 &&& 31)) &&& 1) 0 then (lt_b1 0 (some (.inl (some (.int 0)), M))) else (lt_b1 1 (some (.inl (some (.int 1)), M)))) else (lt_b1 0 (some (.inl (some (.int 0)), M)))) :=
  (lx_ev (d := d) (m := 113) (hs := []) 17 0 [.int x0, .int x1] [] M).symm
set_option maxRecDepth 100000 in
set_option maxHeartbeats 4000000 in
theorem e_X10_at (d : Nat) (M : LM) (o0 : Nat) (x1 : Int32) : f_X10_at (d + 1) M o0 x1 = if @LT.lt Int32 _ x1 0 then (some (.inl (some (.int 0)), M)) else (lt_al M o0 (if @LT.lt Int32 _ x1 (nI (mZ M o0)) then (lt_ar M o0 1 x1 (some (.inl (some (.int (mI M o0 (lt_n x1)))), M))) else (some (.inl (some (.int 0)), M)))) :=
  (lx_ev (d := d) (m := 114) (hs := []) 14 0 [.ref o0, .int x1] [] M).symm
set_option maxRecDepth 100000 in
set_option maxHeartbeats 4000000 in
theorem e_X10_at_ (d : Nat) (M : LM) (o0 : Nat) (x1 : Int32) : f_X10_at_ (d + 1) M o0 x1 = if @LT.lt Int32 _ x1 0 then (some (.inl (some (.long 0)), M)) else (lt_al M o0 (if @LT.lt Int32 _ x1 (nI (mZ M o0)) then (lt_ar M o0 2 x1 (some (.inl (some (.long (mL M o0 (lt_n x1)))), M))) else (some (.inl (some (.long 0)), M)))) :=
  (lx_ev (d := d) (m := 115) (hs := []) 14 0 [.ref o0, .int x1] [] M).symm
set_option maxRecDepth 100000 in
set_option maxHeartbeats 4000000 in
theorem e_X10_put (d : Nat) (M : LM) (o0 : Nat) (x1 : Int32) (x2 : Int32) : f_X10_put (d + 1) M o0 x1 x2 = if @LT.lt Int32 _ x1 0 then (some (.inl none, M)) else (lt_al M o0 (if @LT.lt Int32 _ x1 (nI (mZ M o0)) then (lt_ar M o0 1 x1 (lt_m (wI M o0 (lt_n x1) x2) fun M1 => some (.inl none, M1))) else (some (.inl none, M)))) :=
  (lx_ev (d := d) (m := 116) (hs := []) 13 0 [.ref o0, .int x1, .int x2] [] M).symm
set_option maxRecDepth 100000 in
set_option maxHeartbeats 4000000 in
theorem e_X10_put_ (d : Nat) (M : LM) (o0 : Nat) (x1 : Int32) (x2 : Int64) : f_X10_put_ (d + 1) M o0 x1 x2 = if @LT.lt Int32 _ x1 0 then (some (.inl none, M)) else (lt_al M o0 (if @LT.lt Int32 _ x1 (nI (mZ M o0)) then (lt_ar M o0 2 x1 (lt_m (wL M o0 (lt_n x1) x2) fun M1 => some (.inl none, M1))) else (some (.inl none, M)))) :=
  (lx_ev (d := d) (m := 117) (hs := []) 13 0 [.ref o0, .int x1, .long x2, lt_j] [] M).symm
set_option maxRecDepth 100000 in
set_option maxHeartbeats 4000000 in
theorem e_X10_add (d : Nat) (M : LM) (o0 : Nat) (x1 : Int32) (x2 : Int32) : f_X10_add (d + 1) M o0 x1 x2 = if @LT.lt Int32 _ x1 0 then (some (.inl none, M)) else (lt_al M o0 (if @LT.lt Int32 _ x1 (nI (mZ M o0)) then (lt_ar M o0 1 x1 (lt_ar M o0 1 x1 (lt_m (wI M o0 (lt_n x1) ((mI M o0 (lt_n x1)) + x2)) fun M1 => some (.inl none, M1)))) else (some (.inl none, M)))) :=
  (lx_ev (d := d) (m := 118) (hs := []) 16 0 [.ref o0, .int x1, .int x2] [] M).symm
set_option maxRecDepth 100000 in
set_option maxHeartbeats 4000000 in
theorem e_X10_copy (d : Nat) (M : LM) (o0 : Nat) (o1 : Nat) : f_X10_copy (d + 1) M o0 o1 = lt_al M o0 (lt_al M o1 (if @LT.lt Int32 _ (nI (mZ M o1)) (nI (mZ M o0)) then (lt_al M o1 (lt_cp M o0 o1 0 0 (nI (mZ M o1)) fun M1 => some (.inl none, M1))) else (lt_al M o0 (lt_cp M o0 o1 0 0 (nI (mZ M o0)) fun M2 => some (.inl none, M2))))) :=
  (lx_ev (d := d) (m := 119) (hs := []) 18 0 [.ref o0, .ref o1] [] M).symm
set_option maxRecDepth 100000 in
set_option maxHeartbeats 4000000 in
theorem e_X10_copy_ (d : Nat) (M : LM) (o0 : Nat) (o1 : Nat) : f_X10_copy_ (d + 1) M o0 o1 = lt_al M o0 (lt_al M o1 (if @LT.lt Int32 _ (nI (mZ M o1)) (nI (mZ M o0)) then (lt_al M o1 (lt_cp M o0 o1 0 0 (nI (mZ M o1)) fun M1 => some (.inl none, M1))) else (lt_al M o0 (lt_cp M o0 o1 0 0 (nI (mZ M o0)) fun M2 => some (.inl none, M2))))) :=
  (lx_ev (d := d) (m := 120) (hs := []) 18 0 [.ref o0, .ref o1] [] M).symm
set_option maxRecDepth 100000 in
set_option maxHeartbeats 4000000 in
theorem e_X10_least (d : Nat) (M : LM) (x0 : Int32) (o1 : Nat) : f_X10_least (d + 1) M x0 o1 = f_X10_least_7 (d + 1) M x0 o1 ((-1)) 0 0 :=
  (lx_ev (d := d) (m := 121) (hs := [7]) 37 0 [.int x0, .ref o1, lt_j, lt_j, lt_j, lt_j] [] M).symm
set_option maxRecDepth 100000 in
set_option maxHeartbeats 4000000 in
theorem e_X10_least_7 (d : Nat) (M : LM) (x0 : Int32) (o1 : Nat) (x2 : Int32) (x3 : Int64) (x5 : Int32) : f_X10_least_7 (d + 1) M x0 o1 x2 x3 x5 = lt_al M o1 (if @LT.lt Int32 _ x5 (nI (mZ M o1)) then (if @Eq Int32 ((x0 >>> (x5 &&& 31)) &&& 1) 0 then (f_X10_least_7 (d + 1) M x0 o1 x2 x3 (x5 + 1)) else (if @Eq Int32 x2 ((-1)) then (lt_ar M o1 2 x5 (f_X10_least_7 (d + 1) M x0 o1 x5 (mL M o1 (lt_n x5)) (x5 + 1))) else (lt_ar M o1 2 x5 (if @LT.lt Int32 _ (lg_cmp (mL M o1 (lt_n x5)) x3) 0 then (lt_ar M o1 2 x5 (f_X10_least_7 (d + 1) M x0 o1 x5 (mL M o1 (lt_n x5)) (x5 + 1))) else (f_X10_least_7 (d + 1) M x0 o1 x2 x3 (x5 + 1)))))) else (some (.inl (some (.int x2)), M))) :=
  (lx_ev (d := d) (m := 121) (hs := [7]) 37 7 [.int x0, .ref o1, .int x2, .long x3, lt_j, .int x5] [] M).symm
set_option maxRecDepth 100000 in
set_option maxHeartbeats 4000000 in
theorem e_X10_rankAskedAgain (d : Nat) (M : LM) (x0 : Int64) (x1 : Int32) : f_X10_rankAskedAgain (d + 1) M x0 x1 = lt_nzl 300 (some (.inl (some (.long ((((x0 / 300) + 1) * 300) + (Int32.toInt64 x1)))), M)) :=
  (lx_ev (d := d) (m := 122) (hs := []) 13 0 [.long x0, lt_j, .int x1] [] M).symm
set_option maxRecDepth 100000 in
set_option maxHeartbeats 4000000 in
theorem e_J6_bitCount_0f7a4 (d : Nat) (M : LM) (x0 : Int32) : f_J6_bitCount_0f7a4 (d + 1) M x0 = some (.inl (some (.int ((((((((x0 - ((lt_us x0 1) &&& 1431655765)) &&& 858993459) + ((lt_us (x0 - ((lt_us x0 1) &&& 1431655765)) 2) &&& 858993459)) + (lt_us (((x0 - ((lt_us x0 1) &&& 1431655765)) &&& 858993459) + ((lt_us (x0 - ((lt_us x0 1) &&& 1431655765)) 2) &&& 858993459)) 4)) &&& 252645135) + (lt_us (((((x0 - ((lt_us x0 1) &&& 1431655765)) &&& 858993459) + ((lt_us (x0 - ((lt_us x0 1) &&& 1431655765)) 2) &&& 858993459)) + (lt_us (((x0 - ((lt_us x0 1) &&& 1431655765)) &&& 858993459) + ((lt_us (x0 - ((lt_us x0 1) &&& 1431655765)) 2) &&& 858993459)) 4)) &&& 252645135) 8)) + (lt_us ((((((x0 - ((lt_us x0 1) &&& 1431655765)) &&& 858993459) + ((lt_us (x0 - ((lt_us x0 1) &&& 1431655765)) 2) &&& 858993459)) + (lt_us (((x0 - ((lt_us x0 1) &&& 1431655765)) &&& 858993459) + ((lt_us (x0 - ((lt_us x0 1) &&& 1431655765)) 2) &&& 858993459)) 4)) &&& 252645135) + (lt_us (((((x0 - ((lt_us x0 1) &&& 1431655765)) &&& 858993459) + ((lt_us (x0 - ((lt_us x0 1) &&& 1431655765)) 2) &&& 858993459)) + (lt_us (((x0 - ((lt_us x0 1) &&& 1431655765)) &&& 858993459) + ((lt_us (x0 - ((lt_us x0 1) &&& 1431655765)) 2) &&& 858993459)) 4)) &&& 252645135) 8)) 16)) &&& 63))), M) :=
  (lx_ev (d := d) (m := 130) (hs := []) 44 0 [.int x0] [] M).symm
set_option maxRecDepth 100000 in
set_option maxHeartbeats 4000000 in
theorem e_J9_max_7cf53 (d : Nat) (M : LM) (x0 : Int32) (x1 : Int32) : f_J9_max_7cf53 (d + 1) M x0 x1 = if @LT.lt Int32 _ x0 x1 then (some (.inl (some (.int x1)), M)) else (some (.inl (some (.int x0)), M)) :=
  (lx_ev (d := d) (m := 131) (hs := []) 9 0 [.int x0, .int x1] [] M).symm
set_option maxRecDepth 100000 in
set_option maxHeartbeats 4000000 in
theorem e_J9_max_f86c9 (d : Nat) (M : LM) (x0 : Int64) (x1 : Int64) : f_J9_max_f86c9 (d + 1) M x0 x1 = if @LT.lt Int32 _ (lg_cmp x0 x1) 0 then (some (.inl (some (.long x1)), M)) else (some (.inl (some (.long x0)), M)) :=
  (lx_ev (d := d) (m := 132) (hs := []) 10 0 [.long x0, lt_j, .long x1, lt_j] [] M).symm
set_option maxRecDepth 100000 in
set_option maxHeartbeats 4000000 in
theorem e_J9_min_7cf53 (d : Nat) (M : LM) (x0 : Int32) (x1 : Int32) : f_J9_min_7cf53 (d + 1) M x0 x1 = if @LT.lt Int32 _ x1 x0 then (some (.inl (some (.int x1)), M)) else (some (.inl (some (.int x0)), M)) :=
  (lx_ev (d := d) (m := 133) (hs := []) 9 0 [.int x0, .int x1] [] M).symm
set_option maxRecDepth 100000 in
set_option maxHeartbeats 4000000 in
theorem e_J7_fill_d0a16 (d : Nat) (M : LM) (o0 : Nat) (x1 : Int64) : f_J7_fill_d0a16 (d + 1) M o0 x1 = lt_al M o0 (f_J7_fill_d0a16_6 (d + 1) M o0 x1 0 (nI (mZ M o0))) :=
  (lx_ev (d := d) (m := 134) (hs := [6]) 17 0 [.ref o0, .long x1, lt_j, lt_j, lt_j] [] M).symm
set_option maxRecDepth 100000 in
set_option maxHeartbeats 4000000 in
theorem e_J7_fill_d0a16_6 (d : Nat) (M : LM) (o0 : Nat) (x1 : Int64) (x3 : Int32) (x4 : Int32) : f_J7_fill_d0a16_6 (d + 1) M o0 x1 x3 x4 = if @LT.lt Int32 _ x3 x4 then (lt_ar M o0 2 x3 (lt_m (wL M o0 (lt_n x3) x1) fun M1 => f_J7_fill_d0a16_6 (d + 1) M1 o0 x1 (x3 + 1) x4)) else (some (.inl none, M)) :=
  (lx_ev (d := d) (m := 134) (hs := [6]) 17 6 [.ref o0, .long x1, lt_j, .int x3, .int x4] [] M).symm
set_option maxRecDepth 100000 in
set_option maxHeartbeats 4000000 in
theorem e_J7_fill_53178 (d : Nat) (M : LM) (o0 : Nat) (x1 : Int32) : f_J7_fill_53178 (d + 1) M o0 x1 = lt_al M o0 (f_J7_fill_53178_5 (d + 1) M o0 x1 0 (nI (mZ M o0))) :=
  (lx_ev (d := d) (m := 135) (hs := [5]) 17 0 [.ref o0, .int x1, lt_j, lt_j] [] M).symm
set_option maxRecDepth 100000 in
set_option maxHeartbeats 4000000 in
theorem e_J7_fill_53178_5 (d : Nat) (M : LM) (o0 : Nat) (x1 : Int32) (x2 : Int32) (x3 : Int32) : f_J7_fill_53178_5 (d + 1) M o0 x1 x2 x3 = if @LT.lt Int32 _ x2 x3 then (lt_ar M o0 1 x2 (lt_m (wI M o0 (lt_n x2) x1) fun M1 => f_J7_fill_53178_5 (d + 1) M1 o0 x1 (x2 + 1) x3)) else (some (.inl none, M)) :=
  (lx_ev (d := d) (m := 135) (hs := [5]) 17 5 [.ref o0, .int x1, .int x2, .int x3] [] M).symm
