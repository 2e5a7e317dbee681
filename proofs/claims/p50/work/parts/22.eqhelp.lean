/-! what each method's run is, between its heads (printed by wip/p50/gen06.py) -/
set_option maxRecDepth 100000 in
set_option maxHeartbeats 4000000 in
theorem e_X11_init (d : Nat) (M : LM) (o0 : Nat) (o1 : Nat) : f_X11_init (d + 1) M o0 o1 = lt_ck M o0 27 (lt_m (wL M o0 0 7) fun M1 => lt_al M1 o1 (f_X11_init_19 (d + 1) M1 o0 o1 (nI (mZ M1 o1)) 0)) :=
  (lx_ev (d := d) (m := 123) (hs := [19]) 35 0 [.ref o0, .ref o1, lt_j, lt_j, lt_j, lt_j] [] M).symm
set_option maxRecDepth 100000 in
set_option maxHeartbeats 4000000 in
theorem e_X11_init_19 (d : Nat) (M : LM) (o0 : Nat) (o2 : Nat) (x3 : Int32) (x4 : Int32) : f_X11_init_19 (d + 1) M o0 o2 x3 x4 = if @LT.lt Int32 _ x4 x3 then (lt_ar M o2 9 x4 (lt_ck M o0 27 (lt_ck M o0 27 (lt_m (wL M o0 0 ((((mL M o0 0) + (Int32.toInt64 (mI M o2 (lt_n x4)))) * 6364136223846793005) + 1442695040888963407)) fun M2 => f_X11_init_19 (d + 1) M2 o0 o2 x3 (x4 + 1))))) else (some (.inl none, M)) :=
  (lx_ev (d := d) (m := 123) (hs := [19]) 35 19 [.ref o0, lt_j, .ref o2, .int x3, .int x4, lt_j] [] M).symm
set_option maxRecDepth 100000 in
set_option maxHeartbeats 4000000 in
theorem e_X11_n (d : Nat) (M : LM) (o0 : Nat) (x1 : Int32) : f_X11_n (d + 1) M o0 x1 = lt_ck M o0 27 (lt_ck M o0 27 (lt_m (wL M o0 0 (((mL M o0 0) * 6364136223846793005) + 1442695040888963407)) fun M1 => lt_ck M1 o0 27 (lt_nzl (Int32.toInt64 x1) (some (.inl (some (.int (Int64.toInt32 ((lt_lus (mL M1 o0 0) 33) - (lt_lus (mL M1 o0 0) 33) / (Int32.toInt64 x1) * (Int32.toInt64 x1))))), M1))))) :=
  (lx_ev (d := d) (m := 124) (hs := []) 19 0 [.ref o0, .int x1] [] M).symm
set_option maxRecDepth 100000 in
set_option maxHeartbeats 4000000 in
theorem e_X12_init (d : Nat) (M : LM) (o0 : Nat) (x1 : Int32) (x2 : Int32) (o3 : Nat) : f_X12_init (d + 1) M o0 x1 x2 o3 = lt_ln 26 (lt_m (aNew M 1 (lt_n 26) (lt_n 26)) fun M1 => lt_ck M1 o0 28 (lt_m (wP M1 o0 3 (some (mN M))) fun M2 => lt_ln 26 (lt_m (aNew M2 3 (lt_n 26) (lt_n 26)) fun M3 => lt_ck M3 o0 28 (lt_m (wP M3 o0 4 (some (mN M2))) fun M4 => lt_ck M4 o0 28 (lt_m (wI M4 o0 0 x1) fun M5 => lt_ck M5 o0 28 (lt_m (wI M5 o0 1 x2) fun M6 => lt_ck M6 o0 28 (lt_m (wP M6 o0 2 (some o3)) fun M7 => some (.inl none, M7)))))))) :=
  (lx_ev (d := d) (m := 125) (hs := []) 22 0 [.ref o0, .int x1, .int x2, .ref o3] [] M).symm
set_option maxRecDepth 100000 in
set_option maxHeartbeats 4000000 in
theorem e_X12_out (d : Nat) (M : LM) (o0 : Nat) (x1 : Int32) : f_X12_out (d + 1) M o0 x1 = lt_ck M o0 28 (lt_ck M o0 28 (lt_rf (mP M o0 2) fun q1 => lt_ck M o0 28 (lt_rf (mP M o0 3) fun q2 => lt_ar M q2 1 x1 (lt_ar M q1 1 (mI M q2 (lt_n x1)) (lt_ck M o0 28 (lt_m (wI M o0 6 ((mI M o0 6) - (mI M q1 (lt_n (mI M q2 (lt_n x1)))))) fun M3 => lt_ck M3 o0 28 (lt_ck M3 o0 28 (lt_m (wI M3 o0 5 ((mI M3 o0 5) - 1)) fun M4 => f_X12_out_32 (d + 1) M4 o0 x1)))))))) :=
  (lx_ev (d := d) (m := 126) (hs := [32]) 49 0 [.ref o0, .int x1, lt_j] [] M).symm
set_option maxRecDepth 100000 in
set_option maxHeartbeats 4000000 in
theorem e_X12_out_32 (d : Nat) (M : LM) (o0 : Nat) (x2 : Int32) : f_X12_out_32 (d + 1) M o0 x2 = lt_ck M o0 28 (if @LT.lt Int32 _ x2 (mI M o0 5) then (lt_ck M o0 28 (lt_rf (mP M o0 3) fun q5 => lt_ck M o0 28 (lt_rf (mP M o0 3) fun q6 => lt_ar M q6 1 (x2 + 1) (lt_ar M q5 1 x2 (lt_m (wI M q5 (lt_n x2) (mI M q6 (lt_n (x2 + 1)))) fun M7 => lt_ck M7 o0 28 (lt_rf (mP M7 o0 4) fun q8 => lt_ck M7 o0 28 (lt_rf (mP M7 o0 4) fun q9 => lt_ar M7 q9 3 (x2 + 1) (lt_ar M7 q8 3 x2 (lt_b1 (mI M7 q9 (lt_n (x2 + 1))) (lt_m (wI M7 q8 (lt_n x2) (mI M7 q9 (lt_n (x2 + 1)))) fun M10 => f_X12_out_32 (d + 1) M10 o0 (x2 + 1))))))))))) else (some (.inl none, M))) :=
  (lx_ev (d := d) (m := 126) (hs := [32]) 49 32 [.ref o0, lt_j, .int x2] [] M).symm
set_option maxRecDepth 100000 in
set_option maxHeartbeats 4000000 in
theorem e_X12_in (d : Nat) (M : LM) (o0 : Nat) (x1 : Int32) : f_X12_in (d + 1) M o0 x1 = lt_ck M o0 28 (lt_rf (mP M o0 3) fun q1 => lt_ck M o0 28 (lt_ar M q1 1 (mI M o0 5) (lt_m (wI M q1 (lt_n (mI M o0 5)) x1) fun M2 => lt_ck M2 o0 28 (lt_rf (mP M2 o0 4) fun q3 => lt_ck M2 o0 28 (lt_ar M2 q3 3 (mI M2 o0 5) (lt_b1 0 (lt_m (wI M2 q3 (lt_n (mI M2 o0 5)) 0) fun M4 => lt_ck M4 o0 28 (lt_ck M4 o0 28 (lt_m (wI M4 o0 5 ((mI M4 o0 5) + 1)) fun M5 => lt_ck M5 o0 28 (lt_ck M5 o0 28 (lt_rf (mP M5 o0 2) fun q6 => lt_ar M5 q6 1 x1 (lt_ck M5 o0 28 (lt_m (wI M5 o0 6 ((mI M5 o0 6) + (mI M5 q6 (lt_n x1)))) fun M7 => some (.inl none, M7)))))))))))))) :=
  (lx_ev (d := d) (m := 127) (hs := []) 30 0 [.ref o0, .int x1] [] M).symm
set_option maxRecDepth 100000 in
set_option maxHeartbeats 4000000 in
theorem e_X12_ask (d : Nat) (M : LM) (o0 : Nat) (x1 : Int32) : f_X12_ask (d + 1) M o0 x1 = f_X12_ask_2 (d + 1) M o0 x1 0 :=
  (lx_ev (d := d) (m := 128) (hs := [2, 84]) 91 0 [.ref o0, .int x1, lt_j, lt_j, lt_j] [] M).symm
set_option maxRecDepth 100000 in
set_option maxHeartbeats 4000000 in
theorem e_X12_ask_2 (d : Nat) (M : LM) (o0 : Nat) (x1 : Int32) (x2 : Int32) : f_X12_ask_2 (d + 1) M o0 x1 x2 = lt_ck M o0 28 (if @LT.lt Int32 _ x2 (mI M o0 5) then (lt_ck M o0 28 (lt_rf (mP M o0 3) fun q7 => lt_ar M q7 1 x2 (if @Eq Int32 (mI M q7 (lt_n x2)) x1 then (lt_ck M o0 28 (if @LT.lt Int32 _ x2 (mI M o0 5) then (lt_ck M o0 28 (lt_ck M o0 28 (lt_m (wI M o0 7 ((mI M o0 7) + 1)) fun M9 => lt_ck M9 o0 28 (lt_rf (mP M9 o0 4) fun q10 => lt_ar M9 q10 3 x2 (lt_b1 1 (lt_m (wI M9 q10 (lt_n x2) 1) fun M11 => lt_ck M11 o0 28 (if @LT.lt Int32 _ 0 (mI M11 o0 0) then (some (.inl none, M11)) else (lt_ck M11 o0 28 (lt_bv (f_X12_out d M11 o0 x2) [] fun M12 => lt_ck M12 o0 28 (lt_bv (f_X12_in d M12 o0 x1) [] fun M13 => some (.inl none, M13))))))))))) else (lt_ck M o0 28 (lt_rf (mP M o0 2) fun q8 => lt_ar M q8 1 x1 (lt_ck M o0 28 (if @LT.lt Int32 _ (mI M o0 1) (mI M q8 (lt_n x1)) then (some (.inl none, M)) else (f_X12_ask_84 (d + 1) M o0 x1))))))) else (f_X12_ask_2 (d + 1) M o0 x1 (x2 + 1))))) else (lt_ck M o0 28 (if @LT.lt Int32 _ x2 (mI M o0 5) then (lt_ck M o0 28 (lt_ck M o0 28 (lt_m (wI M o0 7 ((mI M o0 7) + 1)) fun M2 => lt_ck M2 o0 28 (lt_rf (mP M2 o0 4) fun q3 => lt_ar M2 q3 3 x2 (lt_b1 1 (lt_m (wI M2 q3 (lt_n x2) 1) fun M4 => lt_ck M4 o0 28 (if @LT.lt Int32 _ 0 (mI M4 o0 0) then (some (.inl none, M4)) else (lt_ck M4 o0 28 (lt_bv (f_X12_out d M4 o0 x2) [] fun M5 => lt_ck M5 o0 28 (lt_bv (f_X12_in d M5 o0 x1) [] fun M6 => some (.inl none, M6))))))))))) else (lt_ck M o0 28 (lt_rf (mP M o0 2) fun q1 => lt_ar M q1 1 x1 (lt_ck M o0 28 (if @LT.lt Int32 _ (mI M o0 1) (mI M q1 (lt_n x1)) then (some (.inl none, M)) else (f_X12_ask_84 (d + 1) M o0 x1)))))))) :=
  (lx_ev (d := d) (m := 128) (hs := [2, 84]) 91 2 [.ref o0, .int x1, .int x2, lt_j, lt_j] [] M).symm
set_option maxRecDepth 100000 in
set_option maxHeartbeats 4000000 in
theorem e_X12_ask_84 (d : Nat) (M : LM) (o0 : Nat) (x1 : Int32) : f_X12_ask_84 (d + 1) M o0 x1 = lt_ck M o0 28 (lt_ck M o0 28 (lt_rf (mP M o0 2) fun q14 => lt_ar M q14 1 x1 (lt_ck M o0 28 (if @LT.lt Int32 _ (mI M o0 1) ((mI M o0 6) + (mI M q14 (lt_n x1))) then (lt_ck M o0 28 (lt_rf (mP M o0 3) fun q16 => lt_ar M q16 1 0 (lt_ck M o0 28 (if @Eq Int32 (mI M o0 0) 3 then (lt_ck M o0 28 (lt_rf (mP M o0 4) fun q19 => lt_ar M q19 3 0 (if @Eq Int32 (mI M q19 (lt_n 0)) 0 then (lt_ck M o0 28 (lt_bv (f_X12_out d M o0 0) [] fun M20 => if @Eq Int32 0 0 then (f_X12_ask_84 (d + 1) M20 o0 x1) else (lt_ck M20 o0 28 (lt_bv (f_X12_in d M20 o0 (mI M q16 (lt_n 0))) [] fun M21 => f_X12_ask_84 (d + 1) M21 o0 x1)))) else (lt_ck M o0 28 (lt_bv (f_X12_out d M o0 0) [] fun M22 => if @Eq Int32 1 0 then (f_X12_ask_84 (d + 1) M22 o0 x1) else (lt_ck M22 o0 28 (lt_bv (f_X12_in d M22 o0 (mI M q16 (lt_n 0))) [] fun M23 => f_X12_ask_84 (d + 1) M23 o0 x1))))))) else (lt_ck M o0 28 (lt_bv (f_X12_out d M o0 0) [] fun M17 => if @Eq Int32 0 0 then (f_X12_ask_84 (d + 1) M17 o0 x1) else (lt_ck M17 o0 28 (lt_bv (f_X12_in d M17 o0 (mI M q16 (lt_n 0))) [] fun M18 => f_X12_ask_84 (d + 1) M18 o0 x1)))))))) else (lt_ck M o0 28 (lt_bv (f_X12_in d M o0 x1) [] fun M15 => some (.inl none, M15))))))) :=
  (lx_ev (d := d) (m := 128) (hs := [2, 84]) 91 84 [.ref o0, .int x1, lt_j, lt_j, lt_j] [] M).symm
set_option maxRecDepth 100000 in
set_option maxHeartbeats 4000000 in
theorem e_X12_isSame (d : Nat) (M : LM) (o0 : Nat) (o1 : Nat) (x2 : Int32) : f_X12_isSame (d + 1) M o0 o1 x2 = lt_ck M o1 26 (lt_bi (f_X10_count d M o1 x2 0) [] fun v2 M1 => lt_ck M1 o0 28 (if @Eq Int32 v2 (mI M1 o0 7) then (lt_ck M1 o1 26 (lt_bi (f_X10_cacheAt d M1 o1 x2 4) [] fun v4 M3 => lt_ck M3 o0 28 (if @Eq Int32 v4 (mI M3 o0 5) then (lt_ck M3 o1 26 (lt_bi (f_X10_cacheAt d M3 o1 x2 5) [] fun v6 M5 => lt_ck M5 o0 28 (if @Eq Int32 v6 (mI M5 o0 6) then (f_X12_isSame_43 (d + 1) M5 o0 o1 x2 0) else (lt_b1 0 (some (.inl (some (.int 0)), M5)))))) else (lt_b1 0 (some (.inl (some (.int 0)), M3)))))) else (lt_b1 0 (some (.inl (some (.int 0)), M1))))) :=
  (lx_ev (d := d) (m := 129) (hs := [43]) 46 0 [.ref o0, .ref o1, .int x2, lt_j] [] M).symm
set_option maxRecDepth 100000 in
set_option maxHeartbeats 4000000 in
theorem e_X12_isSame_43 (d : Nat) (M : LM) (o0 : Nat) (o1 : Nat) (x2 : Int32) (x3 : Int32) : f_X12_isSame_43 (d + 1) M o0 o1 x2 x3 = lt_ck M o0 28 (if @LT.lt Int32 _ x3 (mI M o0 5) then (lt_ck M o1 26 (lt_bi (f_X10_keyInOrder d M o1 x2 x3) [] fun v8 M7 => lt_ck M7 o0 28 (lt_rf (mP M7 o0 3) fun q9 => lt_ar M7 q9 1 x3 (if @Eq Int32 v8 (mI M7 q9 (lt_n x3)) then (f_X12_isSame_43 (d + 1) M7 o0 o1 x2 (x3 + 1)) else (lt_b1 0 (some (.inl (some (.int 0)), M7))))))) else (lt_b1 1 (some (.inl (some (.int 1)), M)))) :=
  (lx_ev (d := d) (m := 129) (hs := [43]) 46 43 [.ref o0, .ref o1, .int x2, .int x3] [] M).symm
