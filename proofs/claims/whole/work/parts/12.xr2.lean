set_option maxHeartbeats 4000000 in
set_option maxRecDepth 100000 in
theorem c_X0_coins (l : Launch) (D : va_G) (κ : Nat → ClassId) (a : Nat → Nat) (v : VS) (hv : ok_v v) : Rd l yX0_coins cX0_coins 1 (some .int) 0 0 (Pw D (kt_ κ) (xw κ a v) [.ref (a 0)]) (.int (nI (vs_c v))) := by
  refine rd_intro (own := RX0) (by decide +kernel) rfl (Nat.le_of_ble_eq_true rfl) (fun p e s m args below meth c pc ls hx hb hr hlk d => ret_I hx hb hr hlk d) ?_
  intro p e s m args below meth c ls Qq hx hb hml hown hts hK hP hend hl
  have hl : lv_has ls 1 [(0, .ref (a 0))] := hl
  obtain ⟨hv1, hv2, hv3, hv4, hv5, hv6⟩ := id hv
  refine lv_aload_n hx hb dX0_coins_0 rfl (lv_at hl 0 rfl) ?_
  refine va_get (D := D) (ci := 0) (v := .int (nI (vs_c v))) (C := RX0) (T := TX0) (N := 7) hx hb hts i_X0 hown hK hP 0 rfl rfl 4 (by decide) (hts _ q_f_X0_25) (fun _ h9 => h9) rfl dX0_coins_1 ?_
  exact hend _ _ dX0_coins_4
set_option maxHeartbeats 4000000 in
set_option maxRecDepth 100000 in
theorem c_X0_schools (l : Launch) (D : va_G) (κ : Nat → ClassId) (a : Nat → Nat) (v : VS) (hv : ok_v v) : Rd l yX0_schools cX0_schools 1 (some .int) 0 0 (Pw D (kt_ κ) (xw κ a v) [.ref (a 0)]) (.int (nI (vs_n v))) := by
  refine rd_intro (own := RX0) (by decide +kernel) rfl (Nat.le_of_ble_eq_true rfl) (fun p e s m args below meth c pc ls hx hb hr hlk d => ret_I hx hb hr hlk d) ?_
  intro p e s m args below meth c ls Qq hx hb hml hown hts hK hP hend hl
  have hl : lv_has ls 1 [(0, .ref (a 0))] := hl
  obtain ⟨hv1, hv2, hv3, hv4, hv5, hv6⟩ := id hv
  refine lv_aload_n hx hb dX0_schools_0 rfl (lv_at hl 0 rfl) ?_
  refine va_get (D := D) (ci := 0) (v := .int (nI (vs_n v))) (C := RX0) (T := TX0) (N := 7) hx hb hts i_X0 hown hK hP 0 rfl rfl 5 (by decide) (hts _ q_f_X0_29) (fun _ h9 => h9) rfl dX0_schools_1 ?_
  exact hend _ _ dX0_schools_4
set_option maxHeartbeats 4000000 in
set_option maxRecDepth 100000 in
theorem c_X0_tosses (l : Launch) (D : va_G) (κ : Nat → ClassId) (a : Nat → Nat) (v : VS) (hv : ok_v v) : Rd l yX0_tosses cX0_tosses 1 (some .int) 0 0 (Pw D (kt_ κ) (xw κ a v) [.ref (a 0)]) (.int (nI (vs_t v))) := by
  refine rd_intro (own := RX0) (by decide +kernel) rfl (Nat.le_of_ble_eq_true rfl) (fun p e s m args below meth c pc ls hx hb hr hlk d => ret_I hx hb hr hlk d) ?_
  intro p e s m args below meth c ls Qq hx hb hml hown hts hK hP hend hl
  have hl : lv_has ls 1 [(0, .ref (a 0))] := hl
  obtain ⟨hv1, hv2, hv3, hv4, hv5, hv6⟩ := id hv
  refine lv_aload_n hx hb dX0_tosses_0 rfl (lv_at hl 0 rfl) ?_
  refine va_get (D := D) (ci := 0) (v := .int (nI (vs_t v))) (C := RX0) (T := TX0) (N := 7) hx hb hts i_X0 hown hK hP 0 rfl rfl 6 (by decide) (hts _ q_f_X0_32) (fun _ h9 => h9) rfl dX0_tosses_1 ?_
  exact hend _ _ dX0_tosses_4
set_option maxHeartbeats 4000000 in
set_option maxRecDepth 100000 in
theorem c_X0_heads (l : Launch) (D : va_G) (κ : Nat → ClassId) (a : Nat → Nat) (v : VS) (hv : ok_v v) : Rd l yX0_heads cX0_heads 1 (some .int) 2 43 (Pw D (kt_ κ) (xw κ a v) [.ref (a 0)]) (.int (nI (hh_ v))) := by
  refine rd_intro (own := RX0) (by decide +kernel) rfl (Nat.le_of_ble_eq_true rfl) (fun p e s m args below meth c pc ls hx hb hr hlk d => ret_I hx hb hr hlk d) ?_
  intro p e s m args below meth c ls Qq hx hb hml hown hts hK hP hend hl
  have hl : lv_has ls 1 [(0, .ref (a 0))] := hl
  obtain ⟨hv1, hv2, hv3, hv4, hv5, hv6⟩ := id hv
  refine lv_aload_n hx hb dX0_heads_0 rfl (lv_at hl 0 rfl) ?_
  refine rd_V (rest := []) ⟨hx, hb, hml, hown, hts⟩ (c_X0_headsNow l D κ a v hv) g_X0_69 n_X0_headsNow ⟨Nat.le_of_ble_eq_true rfl, Nat.le_of_ble_eq_true rfl⟩ hK hP rfl rfl rfl hl.1 rfl (Nat.le_of_ble_eq_true rfl) dX0_heads_1 ⟨Nat.zero_le _, Nat.zero_le _⟩ ?_
  exact hend _ _ dX0_heads_4
set_option maxHeartbeats 4000000 in
set_option maxRecDepth 100000 in
theorem c_X0_wholeWeight (l : Launch) (D : va_G) (κ : Nat → ClassId) (a : Nat → Nat) (v : VS) (hv : ok_v v) : Rd l yX0_wholeWeight cX0_wholeWeight 1 (some .long) 4 98 (Pw D (kt_ κ) (xw κ a v) [.ref (a 0)]) (.long (lN (wl_ v (hh_ v) (tt_ v)))) := by
  refine rd_intro (own := RX0) (by decide +kernel) rfl (Nat.le_of_ble_eq_true rfl) (fun p e s m args below meth c pc ls hx hb hr hlk d => ret_L hx hb hr hlk d) ?_
  intro p e s m args below meth c ls Qq hx hb hml hown hts hK hP hend hl
  have hl : lv_has ls 1 [(0, .ref (a 0))] := hl
  obtain ⟨hv1, hv2, hv3, hv4, hv5, hv6⟩ := id hv
  refine lv_aload_n hx hb dX0_wholeWeight_0 rfl (lv_at hl 0 rfl) ?_
  refine rd_V (rest := []) ⟨hx, hb, hml, hown, hts⟩ (c_X0_wholeNow l D κ a v hv) g_X0_100 n_X0_wholeNow ⟨Nat.le_of_ble_eq_true rfl, Nat.le_of_ble_eq_true rfl⟩ hK hP rfl rfl rfl hl.1 rfl (Nat.le_of_ble_eq_true rfl) dX0_wholeWeight_1 ⟨Nat.zero_le _, Nat.zero_le _⟩ ?_
  exact hend _ _ dX0_wholeWeight_4
set_option maxHeartbeats 4000000 in
set_option maxRecDepth 100000 in
theorem c_X0_needCoin (l : Launch) (D : va_G) (κ : Nat → ClassId) (a : Nat → Nat) (v : VS) (hv : ok_v v) (c_ : Nat) (hc : c_ < vs_c v) : Rn l yX0_needCoin cX0_needCoin 2 none 0 0 (Pw D (kt_ κ) (xw κ a v) [.ref (a 0), .int (nI (c_))]) := by
  refine rn_intro (own := RX0) (by decide +kernel) rfl (Nat.le_of_ble_eq_true rfl) ?_
  intro p e s m args below meth c ls Qq hx hb hml hown hts hK hP hend hl
  have hl : lv_has ls 2 [(0, .ref (a 0)), (1, .int (nI (c_)))] := hl
  obtain ⟨hv1, hv2, hv3, hv4, hv5, hv6⟩ := id hv
  refine lv_iload_n hx hb dX0_needCoin_0 rfl (lv_at hl 1 rfl) ?_
  refine nv_if_lt (tgt := 12) hx hb dX0_needCoin_1 (by decide) (by omega) ?_
  refine lv_iload_n hx hb dX0_needCoin_4 rfl (lv_at hl 1 rfl) ?_
  refine lv_aload_n hx hb dX0_needCoin_5 rfl (lv_at hl 0 rfl) ?_
  refine va_get (D := D) (ci := 0) (v := .int (nI (vs_c v))) (C := RX0) (T := TX0) (N := 7) hx hb hts i_X0 hown hK hP 0 rfl rfl 4 (by decide) (hts _ q_f_X0_25) (fun _ h9 => h9) rfl dX0_needCoin_6 ?_
  refine nv_icmp_lt (tgt := 22) hx hb dX0_needCoin_9 (by decide) (by omega) (by omega) (fun c_9 => ?_) (fun z => absurd z (by omega))
  exact hend _ _ dX0_needCoin_22
set_option maxHeartbeats 4000000 in
set_option maxRecDepth 100000 in
theorem c_X0_needSchool (l : Launch) (D : va_G) (κ : Nat → ClassId) (a : Nat → Nat) (v : VS) (hv : ok_v v) (s_ : Nat) (hs : s_ < vs_n v) : Rn l yX0_needSchool cX0_needSchool 2 none 0 0 (Pw D (kt_ κ) (xw κ a v) [.ref (a 0), .int (nI (s_))]) := by
  refine rn_intro (own := RX0) (by decide +kernel) rfl (Nat.le_of_ble_eq_true rfl) ?_
  intro p e s m args below meth c ls Qq hx hb hml hown hts hK hP hend hl
  have hl : lv_has ls 2 [(0, .ref (a 0)), (1, .int (nI (s_)))] := hl
  obtain ⟨hv1, hv2, hv3, hv4, hv5, hv6⟩ := id hv
  refine lv_iload_n hx hb dX0_needSchool_0 rfl (lv_at hl 1 rfl) ?_
  refine nv_if_lt (tgt := 12) hx hb dX0_needSchool_1 (by decide) (by omega) ?_
  refine lv_iload_n hx hb dX0_needSchool_4 rfl (lv_at hl 1 rfl) ?_
  refine lv_aload_n hx hb dX0_needSchool_5 rfl (lv_at hl 0 rfl) ?_
  refine va_get (D := D) (ci := 0) (v := .int (nI (vs_n v))) (C := RX0) (T := TX0) (N := 7) hx hb hts i_X0 hown hK hP 0 rfl rfl 5 (by decide) (hts _ q_f_X0_29) (fun _ h9 => h9) rfl dX0_needSchool_6 ?_
  refine nv_icmp_lt (tgt := 22) hx hb dX0_needSchool_9 (by decide) (by omega) (by omega) (fun c_9 => ?_) (fun z => absurd z (by omega))
  exact hend _ _ dX0_needSchool_22
set_option maxHeartbeats 4000000 in
set_option maxRecDepth 100000 in
theorem c_X0_needToss (l : Launch) (D : va_G) (κ : Nat → ClassId) (a : Nat → Nat) (v : VS) (hv : ok_v v) (t_ : Nat) (ht : t_ < vs_t v) : Rn l yX0_needToss cX0_needToss 2 none 0 0 (Pw D (kt_ κ) (xw κ a v) [.ref (a 0), .int (nI (t_))]) := by
  refine rn_intro (own := RX0) (by decide +kernel) rfl (Nat.le_of_ble_eq_true rfl) ?_
  intro p e s m args below meth c ls Qq hx hb hml hown hts hK hP hend hl
  have hl : lv_has ls 2 [(0, .ref (a 0)), (1, .int (nI (t_)))] := hl
  obtain ⟨hv1, hv2, hv3, hv4, hv5, hv6⟩ := id hv
  refine lv_iload_n hx hb dX0_needToss_0 rfl (lv_at hl 1 rfl) ?_
  refine nv_if_lt (tgt := 12) hx hb dX0_needToss_1 (by decide) (by omega) ?_
  refine lv_iload_n hx hb dX0_needToss_4 rfl (lv_at hl 1 rfl) ?_
  refine lv_aload_n hx hb dX0_needToss_5 rfl (lv_at hl 0 rfl) ?_
  refine va_get (D := D) (ci := 0) (v := .int (nI (vs_t v))) (C := RX0) (T := TX0) (N := 7) hx hb hts i_X0 hown hK hP 0 rfl rfl 6 (by decide) (hts _ q_f_X0_32) (fun _ h9 => h9) rfl dX0_needToss_6 ?_
  refine nv_icmp_lt (tgt := 22) hx hb dX0_needToss_9 (by decide) (by omega) (by omega) (fun c_9 => ?_) (fun z => absurd z (by omega))
  exact hend _ _ dX0_needToss_22
set_option maxHeartbeats 4000000 in
set_option maxRecDepth 100000 in
theorem c_X0_needNoTosses (l : Launch) (D : va_G) (κ : Nat → ClassId) (a : Nat → Nat) (v : VS) (hv : ok_v v) (h0 : vs_t v = 0) : Rn l yX0_needNoTosses cX0_needNoTosses 1 none 0 0 (Pw D (kt_ κ) (xw κ a v) [.ref (a 0)]) := by
  refine rn_intro (own := RX0) (by decide +kernel) rfl (Nat.le_of_ble_eq_true rfl) ?_
  intro p e s m args below meth c ls Qq hx hb hml hown hts hK hP hend hl
  have hl : lv_has ls 1 [(0, .ref (a 0))] := hl
  obtain ⟨hv1, hv2, hv3, hv4, hv5, hv6⟩ := id hv
  refine lv_aload_n hx hb dX0_needNoTosses_0 rfl (lv_at hl 0 rfl) ?_
  refine va_get (D := D) (ci := 0) (v := .int (nI (vs_t v))) (C := RX0) (T := TX0) (N := 7) hx hb hts i_X0 hown hK hP 0 rfl rfl 6 (by decide) (hts _ q_f_X0_32) (fun _ h9 => h9) rfl dX0_needNoTosses_1 ?_
  refine nv_if_le (tgt := 17) hx hb dX0_needNoTosses_4 (by decide) (by omega) (fun c_4 => ?_) (fun z => absurd z (by omega))
  exact hend _ _ dX0_needNoTosses_17
set_option maxHeartbeats 4000000 in
set_option maxRecDepth 100000 in
theorem c_X0_needPossible (l : Launch) (D : va_G) (κ : Nat → ClassId) (a : Nat → Nat) (v : VS) (hv : ok_v v) (h_ : Bool) (hp : 0 < ch_ v h_ (hh_ v) (tt_ v)) : Rn l yX0_needPossible cX0_needPossible 2 none 3 80 (Pw D (kt_ κ) (xw κ a v) [.ref (a 0), .int (bI (h_))]) := by
  refine rn_intro (own := RX0) (by decide +kernel) rfl (Nat.le_of_ble_eq_true rfl) ?_
  intro p e s m args below meth c ls Qq hx hb hml hown hts hK hP hend hl
  have hl : lv_has ls 2 [(0, .ref (a 0)), (1, .int (bI (h_)))] := hl
  obtain ⟨hv1, hv2, hv3, hv4, hv5, hv6⟩ := id hv
  have hq1 := hh_le v
  have hq2 := hh_tt v
  have hb9 := ch_b hv h_ (a := hh_ v) (b := tt_ v) (by omega)
  refine lv_aload_n hx hb dX0_needPossible_0 rfl (lv_at hl 0 rfl) ?_
  refine lv_iload_n hx hb dX0_needPossible_1 rfl (lv_at hl 1 rfl) ?_
  refine lv_aload_n hx hb dX0_needPossible_2 rfl (lv_at hl 0 rfl) ?_
  refine rd_V (rest := [.int (bI (h_)), .ref (a 0)]) ⟨hx, hb, hml, hown, hts⟩ (c_X0_headsNow l D κ a v hv) g_X0_69 n_X0_headsNow ⟨Nat.le_of_ble_eq_true rfl, Nat.le_of_ble_eq_true rfl⟩ hK hP rfl rfl rfl hl.1 rfl (Nat.le_of_ble_eq_true rfl) dX0_needPossible_3 ⟨Nat.zero_le _, Nat.zero_le _⟩ ?_
  refine lv_aload_n hx hb dX0_needPossible_6 rfl (lv_at hl 0 rfl) ?_
  refine rd_V (rest := [.int (nI (hh_ v)), .int (bI (h_)), .ref (a 0)]) ⟨hx, hb, hml, hown, hts⟩ (c_X0_tailsNow l D κ a v hv) g_X0_73 n_X0_tailsNow ⟨Nat.le_of_ble_eq_true rfl, Nat.le_of_ble_eq_true rfl⟩ hK hP rfl rfl rfl hl.1 rfl (Nat.le_of_ble_eq_true rfl) dX0_needPossible_7 ⟨Nat.zero_le _, Nat.zero_le _⟩ ?_
  refine rd_V (rest := []) ⟨hx, hb, hml, hown, hts⟩ (c_X0_chance l D κ a v hv (h_) (hh_ v) (tt_ v) (by omega) (by omega)) g_X0_120 n_X0_chance ⟨Nat.le_of_ble_eq_true rfl, Nat.le_of_ble_eq_true rfl⟩ hK hP rfl rfl rfl hl.1 rfl (Nat.le_of_ble_eq_true rfl) dX0_needPossible_10 ⟨Nat.zero_le _, Nat.zero_le _⟩ ?_
  refine lv_lconst (v := lN (0)) hx hb dX0_needPossible_13 (by decide) ?_
  refine nv_lc_ne (tgt := 28) hx hb dX0_needPossible_14 dX0_needPossible_15 (by decide) (by omega) (by omega) (fun c_15 => ?_) (fun z => absurd z (by omega))
  exact hend _ _ dX0_needPossible_28
set_option maxHeartbeats 4000000 in
set_option maxRecDepth 100000 in
theorem c_X0_isHeads (l : Launch) (D : va_G) (κ : Nat → ClassId) (a : Nat → Nat) (v : VS) (hv : ok_v v) (t_ : Nat) (ht : t_ < vs_t v) : Rd l yX0_isHeads cX0_isHeads 2 (some .boolean) 1 21 (Pw D (kt_ κ) (xw κ a v) [.ref (a 0), .int (nI (t_))]) (.int (bI (vs_th v t_))) := by
  refine rd_intro (own := RX0) (by decide +kernel) rfl (Nat.le_of_ble_eq_true rfl) (fun p e s m args below meth c pc ls hx hb hr hlk d => ret_Z hx hb hr hlk d) ?_
  intro p e s m args below meth c ls Qq hx hb hml hown hts hK hP hend hl
  have hl : lv_has ls 2 [(0, .ref (a 0)), (1, .int (nI (t_)))] := hl
  obtain ⟨hv1, hv2, hv3, hv4, hv5, hv6⟩ := id hv
  refine lv_aload_n hx hb dX0_isHeads_0 rfl (lv_at hl 0 rfl) ?_
  refine lv_iload_n hx hb dX0_isHeads_1 rfl (lv_at hl 1 rfl) ?_
  refine rd_VN (rest := []) ⟨hx, hb, hml, hown, hts⟩ (c_X0_needToss l D κ a v hv (t_) (by omega)) g_X0_82 n_X0_needToss ⟨Nat.le_of_ble_eq_true rfl, Nat.le_of_ble_eq_true rfl⟩ hK hP rfl rfl rfl hl.1 rfl (Nat.le_of_ble_eq_true rfl) dX0_isHeads_2 ⟨Nat.zero_le _, Nat.zero_le _⟩ ?_
  refine lv_aload_n hx hb dX0_isHeads_5 rfl (lv_at hl 0 rfl) ?_
  refine va_get (D := D) (ci := 0) (v := .ref (a 4)) (C := RX0) (T := TX0) (N := 7) hx hb hts i_X0 hown hK hP 0 rfl rfl 3 (by decide) (hts _ q_f_X0_21) (fun _ h9 => h9) rfl dX0_isHeads_6 ?_
  refine lv_iload_n hx hb dX0_isHeads_9 rfl (lv_at hl 1 rfl) ?_
  refine nv_zald hx hb hK hP 4 2 (n := 12) (v := bI (vs_th v t_)) rfl rfl (by omega) (by decide) rfl dX0_isHeads_10 ?_
  exact hend _ _ dX0_isHeads_11
set_option maxHeartbeats 4000000 in
set_option maxRecDepth 100000 in
theorem c_X0_tenthsOf (l : Launch) (D : va_G) (κ : Nat → ClassId) (a : Nat → Nat) (v : VS) (hv : ok_v v) (c_ : Nat) (hc : c_ < vs_c v) : Rd l yX0_tenthsOf cX0_tenthsOf 2 (some .int) 1 21 (Pw D (kt_ κ) (xw κ a v) [.ref (a 0), .int (nI (c_))]) (.int (nI (vs_ct v c_))) := by
  refine rd_intro (own := RX0) (by decide +kernel) rfl (Nat.le_of_ble_eq_true rfl) (fun p e s m args below meth c pc ls hx hb hr hlk d => ret_I hx hb hr hlk d) ?_
  intro p e s m args below meth c ls Qq hx hb hml hown hts hK hP hend hl
  have hl : lv_has ls 2 [(0, .ref (a 0)), (1, .int (nI (c_)))] := hl
  obtain ⟨hv1, hv2, hv3, hv4, hv5, hv6⟩ := id hv
  refine lv_aload_n hx hb dX0_tenthsOf_0 rfl (lv_at hl 0 rfl) ?_
  refine lv_iload_n hx hb dX0_tenthsOf_1 rfl (lv_at hl 1 rfl) ?_
  refine rd_VN (rest := []) ⟨hx, hb, hml, hown, hts⟩ (c_X0_needCoin l D κ a v hv (c_) (by omega)) g_X0_58 n_X0_needCoin ⟨Nat.le_of_ble_eq_true rfl, Nat.le_of_ble_eq_true rfl⟩ hK hP rfl rfl rfl hl.1 rfl (Nat.le_of_ble_eq_true rfl) dX0_tenthsOf_2 ⟨Nat.zero_le _, Nat.zero_le _⟩ ?_
  refine lv_aload_n hx hb dX0_tenthsOf_5 rfl (lv_at hl 0 rfl) ?_
  refine va_get (D := D) (ci := 0) (v := .ref (a 1)) (C := RX0) (T := TX0) (N := 7) hx hb hts i_X0 hown hK hP 0 rfl rfl 0 (by decide) (hts _ q_f_X0_9) (fun _ h9 => h9) rfl dX0_tenthsOf_6 ?_
  refine lv_iload_n hx hb dX0_tenthsOf_9 rfl (lv_at hl 1 rfl) ?_
  refine nv_iald hx hb hK hP 1 0 (n := 8) (v := nI (vs_ct v c_)) rfl rfl (by omega) (by decide) rfl dX0_tenthsOf_10 ?_
  exact hend _ _ dX0_tenthsOf_11
set_option maxHeartbeats 4000000 in
set_option maxRecDepth 100000 in
theorem c_X0_oddsOf (l : Launch) (D : va_G) (κ : Nat → ClassId) (a : Nat → Nat) (v : VS) (hv : ok_v v) (s_ : Nat) (hs : s_ < vs_n v) : Rd l yX0_oddsOf cX0_oddsOf 2 (some .int) 1 21 (Pw D (kt_ κ) (xw κ a v) [.ref (a 0), .int (nI (s_))]) (.int (nI (vs_so v s_))) := by
  refine rd_intro (own := RX0) (by decide +kernel) rfl (Nat.le_of_ble_eq_true rfl) (fun p e s m args below meth c pc ls hx hb hr hlk d => ret_I hx hb hr hlk d) ?_
  intro p e s m args below meth c ls Qq hx hb hml hown hts hK hP hend hl
  have hl : lv_has ls 2 [(0, .ref (a 0)), (1, .int (nI (s_)))] := hl
  obtain ⟨hv1, hv2, hv3, hv4, hv5, hv6⟩ := id hv
  refine lv_aload_n hx hb dX0_oddsOf_0 rfl (lv_at hl 0 rfl) ?_
  refine lv_iload_n hx hb dX0_oddsOf_1 rfl (lv_at hl 1 rfl) ?_
  refine rd_VN (rest := []) ⟨hx, hb, hml, hown, hts⟩ (c_X0_needSchool l D κ a v hv (s_) (by omega)) g_X0_54 n_X0_needSchool ⟨Nat.le_of_ble_eq_true rfl, Nat.le_of_ble_eq_true rfl⟩ hK hP rfl rfl rfl hl.1 rfl (Nat.le_of_ble_eq_true rfl) dX0_oddsOf_2 ⟨Nat.zero_le _, Nat.zero_le _⟩ ?_
  refine lv_aload_n hx hb dX0_oddsOf_5 rfl (lv_at hl 0 rfl) ?_
  refine va_get (D := D) (ci := 0) (v := .ref (a 2)) (C := RX0) (T := TX0) (N := 7) hx hb hts i_X0 hown hK hP 0 rfl rfl 1 (by decide) (hts _ q_f_X0_13) (fun _ h9 => h9) rfl dX0_oddsOf_6 ?_
  refine lv_iload_n hx hb dX0_oddsOf_9 rfl (lv_at hl 1 rfl) ?_
  refine nv_iald hx hb hK hP 2 0 (n := 4) (v := nI (vs_so v s_)) rfl rfl (by omega) (by decide) rfl dX0_oddsOf_10 ?_
  exact hend _ _ dX0_oddsOf_11
set_option maxHeartbeats 4000000 in
set_option maxRecDepth 100000 in
theorem c_X0_shareOf (l : Launch) (D : va_G) (κ : Nat → ClassId) (a : Nat → Nat) (v : VS) (hv : ok_v v) (s_ : Nat) (c_ : Nat) (hs : s_ < vs_n v) (hc : c_ < vs_c v) : Rd l yX0_shareOf cX0_shareOf 3 (some .int) 1 21 (Pw D (kt_ κ) (xw κ a v) [.ref (a 0), .int (nI (s_)), .int (nI (c_))]) (.int (nI (vs_sh v s_ c_))) := by
  refine rd_intro (own := RX0) (by decide +kernel) rfl (Nat.le_of_ble_eq_true rfl) (fun p e s m args below meth c pc ls hx hb hr hlk d => ret_I hx hb hr hlk d) ?_
  intro p e s m args below meth c ls Qq hx hb hml hown hts hK hP hend hl
  have hl : lv_has ls 3 [(0, .ref (a 0)), (1, .int (nI (s_))), (2, .int (nI (c_)))] := hl
  obtain ⟨hv1, hv2, hv3, hv4, hv5, hv6⟩ := id hv
  refine lv_aload_n hx hb dX0_shareOf_0 rfl (lv_at hl 0 rfl) ?_
  refine lv_iload_n hx hb dX0_shareOf_1 rfl (lv_at hl 1 rfl) ?_
  refine rd_VN (rest := []) ⟨hx, hb, hml, hown, hts⟩ (c_X0_needSchool l D κ a v hv (s_) (by omega)) g_X0_54 n_X0_needSchool ⟨Nat.le_of_ble_eq_true rfl, Nat.le_of_ble_eq_true rfl⟩ hK hP rfl rfl rfl hl.1 rfl (Nat.le_of_ble_eq_true rfl) dX0_shareOf_2 ⟨Nat.zero_le _, Nat.zero_le _⟩ ?_
  refine lv_aload_n hx hb dX0_shareOf_5 rfl (lv_at hl 0 rfl) ?_
  refine lv_iload_n hx hb dX0_shareOf_6 rfl (lv_at hl 2 rfl) ?_
  refine rd_VN (rest := []) ⟨hx, hb, hml, hown, hts⟩ (c_X0_needCoin l D κ a v hv (c_) (by omega)) g_X0_58 n_X0_needCoin ⟨Nat.le_of_ble_eq_true rfl, Nat.le_of_ble_eq_true rfl⟩ hK hP rfl rfl rfl hl.1 rfl (Nat.le_of_ble_eq_true rfl) dX0_shareOf_7 ⟨Nat.zero_le _, Nat.zero_le _⟩ ?_
  refine lv_aload_n hx hb dX0_shareOf_10 rfl (lv_at hl 0 rfl) ?_
  refine va_get (D := D) (ci := 0) (v := .ref (a 3)) (C := RX0) (T := TX0) (N := 7) hx hb hts i_X0 hown hK hP 0 rfl rfl 2 (by decide) (hts _ q_f_X0_18) (fun _ h9 => h9) rfl dX0_shareOf_11 ?_
  refine lv_iload_n hx hb dX0_shareOf_14 rfl (lv_at hl 1 rfl) ?_
  refine nv_aald hx hb hK hP 3 1 (r := a (5 + s_)) rfl rfl (by omega) (by decide) (xw_ref (by omega)) dX0_shareOf_15 ?_
  refine lv_iload_n hx hb dX0_shareOf_16 rfl (lv_at hl 2 rfl) ?_
  refine nv_iald hx hb hK hP (5 + s_) 0 (n := 8) (v := nI (vs_sh v s_ c_)) (xw_row (by omega)) rfl (by omega) (by decide) rfl dX0_shareOf_17 ?_
  exact hend _ _ dX0_shareOf_18
set_option maxHeartbeats 4000000 in
set_option maxRecDepth 100000 in
theorem c_X0_weightOf (l : Launch) (D : va_G) (κ : Nat → ClassId) (a : Nat → Nat) (v : VS) (hv : ok_v v) (s_ : Nat) (c_ : Nat) (hs : s_ < vs_n v) (hc : c_ < vs_c v) : Rd l yX0_weightOf cX0_weightOf 3 (some .long) 2 43 (Pw D (kt_ κ) (xw κ a v) [.ref (a 0), .int (nI (s_)), .int (nI (c_))]) (.long (lN (pr_ v s_ c_ (hh_ v) (tt_ v)))) := by
  refine rd_intro (own := RX0) (by decide +kernel) rfl (Nat.le_of_ble_eq_true rfl) (fun p e s m args below meth c pc ls hx hb hr hlk d => ret_L hx hb hr hlk d) ?_
  intro p e s m args below meth c ls Qq hx hb hml hown hts hK hP hend hl
  have hl : lv_has ls 3 [(0, .ref (a 0)), (1, .int (nI (s_))), (2, .int (nI (c_)))] := hl
  obtain ⟨hv1, hv2, hv3, hv4, hv5, hv6⟩ := id hv
  have hq1 := hh_le v
  have hq2 := hh_tt v
  refine lv_aload_n hx hb dX0_weightOf_0 rfl (lv_at hl 0 rfl) ?_
  refine lv_iload_n hx hb dX0_weightOf_1 rfl (lv_at hl 1 rfl) ?_
  refine rd_VN (rest := []) ⟨hx, hb, hml, hown, hts⟩ (c_X0_needSchool l D κ a v hv (s_) (by omega)) g_X0_54 n_X0_needSchool ⟨Nat.le_of_ble_eq_true rfl, Nat.le_of_ble_eq_true rfl⟩ hK hP rfl rfl rfl hl.1 rfl (Nat.le_of_ble_eq_true rfl) dX0_weightOf_2 ⟨Nat.zero_le _, Nat.zero_le _⟩ ?_
  refine lv_aload_n hx hb dX0_weightOf_5 rfl (lv_at hl 0 rfl) ?_
  refine lv_iload_n hx hb dX0_weightOf_6 rfl (lv_at hl 2 rfl) ?_
  refine rd_VN (rest := []) ⟨hx, hb, hml, hown, hts⟩ (c_X0_needCoin l D κ a v hv (c_) (by omega)) g_X0_58 n_X0_needCoin ⟨Nat.le_of_ble_eq_true rfl, Nat.le_of_ble_eq_true rfl⟩ hK hP rfl rfl rfl hl.1 rfl (Nat.le_of_ble_eq_true rfl) dX0_weightOf_7 ⟨Nat.zero_le _, Nat.zero_le _⟩ ?_
  refine lv_aload_n hx hb dX0_weightOf_10 rfl (lv_at hl 0 rfl) ?_
  refine lv_iload_n hx hb dX0_weightOf_11 rfl (lv_at hl 1 rfl) ?_
  refine lv_iload_n hx hb dX0_weightOf_12 rfl (lv_at hl 2 rfl) ?_
  refine rd_V (rest := []) ⟨hx, hb, hml, hown, hts⟩ (c_X0_startWeight l D κ a v hv (s_) (c_) (by omega) (by omega)) g_X0_85 n_X0_startWeight ⟨Nat.le_of_ble_eq_true rfl, Nat.le_of_ble_eq_true rfl⟩ hK hP rfl rfl rfl hl.1 rfl (Nat.le_of_ble_eq_true rfl) dX0_weightOf_13 ⟨Nat.zero_le _, Nat.zero_le _⟩ ?_
  refine lv_aload_n hx hb dX0_weightOf_16 rfl (lv_at hl 0 rfl) ?_
  refine lv_iload_n hx hb dX0_weightOf_17 rfl (lv_at hl 2 rfl) ?_
  refine lv_aload_n hx hb dX0_weightOf_18 rfl (lv_at hl 0 rfl) ?_
  refine rd_V (rest := [.int (nI (c_)), .ref (a 0), .long (lN (sw_ v s_ c_))]) ⟨hx, hb, hml, hown, hts⟩ (c_X0_headsNow l D κ a v hv) g_X0_69 n_X0_headsNow ⟨Nat.le_of_ble_eq_true rfl, Nat.le_of_ble_eq_true rfl⟩ hK hP rfl rfl rfl hl.1 rfl (Nat.le_of_ble_eq_true rfl) dX0_weightOf_19 ⟨Nat.zero_le _, Nat.zero_le _⟩ ?_
  refine lv_aload_n hx hb dX0_weightOf_22 rfl (lv_at hl 0 rfl) ?_
  refine rd_V (rest := [.int (nI (hh_ v)), .int (nI (c_)), .ref (a 0), .long (lN (sw_ v s_ c_))]) ⟨hx, hb, hml, hown, hts⟩ (c_X0_tailsNow l D κ a v hv) g_X0_73 n_X0_tailsNow ⟨Nat.le_of_ble_eq_true rfl, Nat.le_of_ble_eq_true rfl⟩ hK hP rfl rfl rfl hl.1 rfl (Nat.le_of_ble_eq_true rfl) dX0_weightOf_23 ⟨Nat.zero_le _, Nat.zero_le _⟩ ?_
  refine rd_V (rest := [.long (lN (sw_ v s_ c_))]) ⟨hx, hb, hml, hown, hts⟩ (c_X0_likelihood l D κ a v hv (c_) (hh_ v) (tt_ v) (by omega) (by omega) (by omega)) g_X0_89 n_X0_likelihood ⟨Nat.le_of_ble_eq_true rfl, Nat.le_of_ble_eq_true rfl⟩ hK hP rfl rfl rfl hl.1 rfl (Nat.le_of_ble_eq_true rfl) dX0_weightOf_26 ⟨Nat.zero_le _, Nat.zero_le _⟩ ?_
  refine nv_lmul hx hb dX0_weightOf_29 rfl ?_
  refine nv_topl (congrArg lN (show ((sw_ v s_ c_) * (lk_ v c_ (hh_ v) (tt_ v)) : Nat) = pr_ v s_ c_ (hh_ v) (tt_ v) from by first | rfl | omega)) ?_
  exact hend _ _ dX0_weightOf_30
set_option maxHeartbeats 4000000 in
set_option maxRecDepth 100000 in
theorem c_X0_coinWeight (l : Launch) (D : va_G) (κ : Nat → ClassId) (a : Nat → Nat) (v : VS) (hv : ok_v v) (c_ : Nat) (hc : c_ < vs_c v) : Rd l yX0_coinWeight cX0_coinWeight 2 (some .long) 2 53 (Pw D (kt_ κ) (xw κ a v) [.ref (a 0), .int (nI (c_))]) (.long (lN (wt_ v c_ (hh_ v) (tt_ v)))) := by
  refine rd_intro (own := RX0) (by decide +kernel) rfl (Nat.le_of_ble_eq_true rfl) (fun p e s m args below meth c pc ls hx hb hr hlk d => ret_L hx hb hr hlk d) ?_
  intro p e s m args below meth c ls Qq hx hb hml hown hts hK hP hend hl
  have hl : lv_has ls 2 [(0, .ref (a 0)), (1, .int (nI (c_)))] := hl
  obtain ⟨hv1, hv2, hv3, hv4, hv5, hv6⟩ := id hv
  have hq1 := hh_le v
  have hq2 := hh_tt v
  refine lv_aload_n hx hb dX0_coinWeight_0 rfl (lv_at hl 0 rfl) ?_
  refine lv_iload_n hx hb dX0_coinWeight_1 rfl (lv_at hl 1 rfl) ?_
  refine rd_VN (rest := []) ⟨hx, hb, hml, hown, hts⟩ (c_X0_needCoin l D κ a v hv (c_) (by omega)) g_X0_58 n_X0_needCoin ⟨Nat.le_of_ble_eq_true rfl, Nat.le_of_ble_eq_true rfl⟩ hK hP rfl rfl rfl hl.1 rfl (Nat.le_of_ble_eq_true rfl) dX0_coinWeight_2 ⟨Nat.zero_le _, Nat.zero_le _⟩ ?_
  refine lv_aload_n hx hb dX0_coinWeight_5 rfl (lv_at hl 0 rfl) ?_
  refine lv_iload_n hx hb dX0_coinWeight_6 rfl (lv_at hl 1 rfl) ?_
  refine lv_aload_n hx hb dX0_coinWeight_7 rfl (lv_at hl 0 rfl) ?_
  refine rd_V (rest := [.int (nI (c_)), .ref (a 0)]) ⟨hx, hb, hml, hown, hts⟩ (c_X0_headsNow l D κ a v hv) g_X0_69 n_X0_headsNow ⟨Nat.le_of_ble_eq_true rfl, Nat.le_of_ble_eq_true rfl⟩ hK hP rfl rfl rfl hl.1 rfl (Nat.le_of_ble_eq_true rfl) dX0_coinWeight_8 ⟨Nat.zero_le _, Nat.zero_le _⟩ ?_
  refine lv_aload_n hx hb dX0_coinWeight_11 rfl (lv_at hl 0 rfl) ?_
  refine rd_V (rest := [.int (nI (hh_ v)), .int (nI (c_)), .ref (a 0)]) ⟨hx, hb, hml, hown, hts⟩ (c_X0_tailsNow l D κ a v hv) g_X0_73 n_X0_tailsNow ⟨Nat.le_of_ble_eq_true rfl, Nat.le_of_ble_eq_true rfl⟩ hK hP rfl rfl rfl hl.1 rfl (Nat.le_of_ble_eq_true rfl) dX0_coinWeight_12 ⟨Nat.zero_le _, Nat.zero_le _⟩ ?_
  refine rd_V (rest := []) ⟨hx, hb, hml, hown, hts⟩ (c_X0_coinWeightAt l D κ a v hv (c_) (hh_ v) (tt_ v) (by omega) (by omega) (by omega)) g_X0_93 n_X0_coinWeightAt ⟨Nat.le_of_ble_eq_true rfl, Nat.le_of_ble_eq_true rfl⟩ hK hP rfl rfl rfl hl.1 rfl (Nat.le_of_ble_eq_true rfl) dX0_coinWeight_15 ⟨Nat.zero_le _, Nat.zero_le _⟩ ?_
  exact hend _ _ dX0_coinWeight_18
set_option maxHeartbeats 4000000 in
set_option maxRecDepth 100000 in
theorem c_X0_schoolWeight (l : Launch) (D : va_G) (κ : Nat → ClassId) (a : Nat → Nat) (v : VS) (hv : ok_v v) (s_ : Nat) (hs : s_ < vs_n v) : Rd l yX0_schoolWeight cX0_schoolWeight 2 (some .long) 3 69 (Pw D (kt_ κ) (xw κ a v) [.ref (a 0), .int (nI (s_))]) (.long (lN (sc_ v s_ (hh_ v) (tt_ v)))) := by
  refine rd_intro (own := RX0) (by decide +kernel) rfl (Nat.le_of_ble_eq_true rfl) (fun p e s m args below meth c pc ls hx hb hr hlk d => ret_L hx hb hr hlk d) ?_
  intro p e s m args below meth c ls Qq hx hb hml hown hts hK hP hend hl
  have hl : lv_has ls 2 [(0, .ref (a 0)), (1, .int (nI (s_)))] := hl
  obtain ⟨hv1, hv2, hv3, hv4, hv5, hv6⟩ := id hv
  refine lv_aload_n hx hb dX0_schoolWeight_0 rfl (lv_at hl 0 rfl) ?_
  refine lv_iload_n hx hb dX0_schoolWeight_1 rfl (lv_at hl 1 rfl) ?_
  refine rd_VN (rest := []) ⟨hx, hb, hml, hown, hts⟩ (c_X0_needSchool l D κ a v hv (s_) (by omega)) g_X0_54 n_X0_needSchool ⟨Nat.le_of_ble_eq_true rfl, Nat.le_of_ble_eq_true rfl⟩ hK hP rfl rfl rfl hl.1 rfl (Nat.le_of_ble_eq_true rfl) dX0_schoolWeight_2 ⟨Nat.zero_le _, Nat.zero_le _⟩ ?_
  refine lv_aload_n hx hb dX0_schoolWeight_5 rfl (lv_at hl 0 rfl) ?_
  refine lv_iload_n hx hb dX0_schoolWeight_6 rfl (lv_at hl 1 rfl) ?_
  refine rd_V (rest := []) ⟨hx, hb, hml, hown, hts⟩ (c_X0_schoolWeightNow l D κ a v hv (s_) (by omega)) g_X0_96 n_X0_schoolWeightNow ⟨Nat.le_of_ble_eq_true rfl, Nat.le_of_ble_eq_true rfl⟩ hK hP rfl rfl rfl hl.1 rfl (Nat.le_of_ble_eq_true rfl) dX0_schoolWeight_7 ⟨Nat.zero_le _, Nat.zero_le _⟩ ?_
  exact hend _ _ dX0_schoolWeight_10
set_option maxHeartbeats 4000000 in
set_option maxRecDepth 100000 in
theorem c_X0_isRuledOut (l : Launch) (D : va_G) (κ : Nat → ClassId) (a : Nat → Nat) (v : VS) (hv : ok_v v) (c_ : Nat) (hc : c_ < vs_c v) : Rd l yX0_isRuledOut cX0_isRuledOut 2 (some .boolean) 2 53 (Pw D (kt_ κ) (xw κ a v) [.ref (a 0), .int (nI (c_))]) (.int (bI (decide (wt_ v c_ (hh_ v) (tt_ v) = 0)))) := by
  refine rd_intro (own := RX0) (by decide +kernel) rfl (Nat.le_of_ble_eq_true rfl) (fun p e s m args below meth c pc ls hx hb hr hlk d => ret_Z hx hb hr hlk d) ?_
  intro p e s m args below meth c ls Qq hx hb hml hown hts hK hP hend hl
  have hl : lv_has ls 2 [(0, .ref (a 0)), (1, .int (nI (c_)))] := hl
  obtain ⟨hv1, hv2, hv3, hv4, hv5, hv6⟩ := id hv
  have hq1 := hh_le v
  have hq2 := hh_tt v
  have hb1 := wt_b hv c_ (a := hh_ v) (b := tt_ v) (by omega)
  refine lv_aload_n hx hb dX0_isRuledOut_0 rfl (lv_at hl 0 rfl) ?_
  refine lv_iload_n hx hb dX0_isRuledOut_1 rfl (lv_at hl 1 rfl) ?_
  refine rd_VN (rest := []) ⟨hx, hb, hml, hown, hts⟩ (c_X0_needCoin l D κ a v hv (c_) (by omega)) g_X0_58 n_X0_needCoin ⟨Nat.le_of_ble_eq_true rfl, Nat.le_of_ble_eq_true rfl⟩ hK hP rfl rfl rfl hl.1 rfl (Nat.le_of_ble_eq_true rfl) dX0_isRuledOut_2 ⟨Nat.zero_le _, Nat.zero_le _⟩ ?_
  refine lv_aload_n hx hb dX0_isRuledOut_5 rfl (lv_at hl 0 rfl) ?_
  refine lv_iload_n hx hb dX0_isRuledOut_6 rfl (lv_at hl 1 rfl) ?_
  refine lv_aload_n hx hb dX0_isRuledOut_7 rfl (lv_at hl 0 rfl) ?_
  refine rd_V (rest := [.int (nI (c_)), .ref (a 0)]) ⟨hx, hb, hml, hown, hts⟩ (c_X0_headsNow l D κ a v hv) g_X0_69 n_X0_headsNow ⟨Nat.le_of_ble_eq_true rfl, Nat.le_of_ble_eq_true rfl⟩ hK hP rfl rfl rfl hl.1 rfl (Nat.le_of_ble_eq_true rfl) dX0_isRuledOut_8 ⟨Nat.zero_le _, Nat.zero_le _⟩ ?_
  refine lv_aload_n hx hb dX0_isRuledOut_11 rfl (lv_at hl 0 rfl) ?_
  refine rd_V (rest := [.int (nI (hh_ v)), .int (nI (c_)), .ref (a 0)]) ⟨hx, hb, hml, hown, hts⟩ (c_X0_tailsNow l D κ a v hv) g_X0_73 n_X0_tailsNow ⟨Nat.le_of_ble_eq_true rfl, Nat.le_of_ble_eq_true rfl⟩ hK hP rfl rfl rfl hl.1 rfl (Nat.le_of_ble_eq_true rfl) dX0_isRuledOut_12 ⟨Nat.zero_le _, Nat.zero_le _⟩ ?_
  refine rd_V (rest := []) ⟨hx, hb, hml, hown, hts⟩ (c_X0_coinWeightAt l D κ a v hv (c_) (hh_ v) (tt_ v) (by omega) (by omega) (by omega)) g_X0_93 n_X0_coinWeightAt ⟨Nat.le_of_ble_eq_true rfl, Nat.le_of_ble_eq_true rfl⟩ hK hP rfl rfl rfl hl.1 rfl (Nat.le_of_ble_eq_true rfl) dX0_isRuledOut_15 ⟨Nat.zero_le _, Nat.zero_le _⟩ ?_
  refine lv_lconst (v := lN (0)) hx hb dX0_isRuledOut_18 (by decide) ?_
  refine nv_lc_ne (tgt := 27) hx hb dX0_isRuledOut_19 dX0_isRuledOut_20 (by decide) (by omega) (by omega) (fun c_20 => ?_) (fun c_20 => ?_)
  · refine lv_iconst (v := nI (0)) hx hb dX0_isRuledOut_27 (by decide) ?_
    refine nv_topi (show (nI (0) : Int32) = bI (decide (wt_ v c_ (hh_ v) (tt_ v) = 0)) from by first | (rw [decide_eq_true c_20]; rfl) | (rw [decide_eq_false c_20]; rfl)) ?_
    exact hend _ _ dX0_isRuledOut_28
  · refine lv_iconst (v := nI (1)) hx hb dX0_isRuledOut_23 (by decide) ?_
    refine lv_goto (tgt := 28) hx hb dX0_isRuledOut_24 (by decide) ?_
    refine nv_topi (show (nI (1) : Int32) = bI (decide (wt_ v c_ (hh_ v) (tt_ v) = 0)) from by first | (rw [decide_eq_true c_20]; rfl) | (rw [decide_eq_false c_20]; rfl)) ?_
    exact hend _ _ dX0_isRuledOut_28
set_option maxHeartbeats 4000000 in
set_option maxRecDepth 100000 in
theorem c_X0_ruledOut (l : Launch) (D : va_G) (κ : Nat → ClassId) (a : Nat → Nat) (v : VS) (hv : ok_v v) : Rd l yX0_ruledOut cX0_ruledOut 5 (some .int) 2 53 (Pw D (kt_ κ) (xw κ a v) [.ref (a 0)]) (.int (nI (go_ v))) := by
  refine rd_intro (own := RX0) (by decide +kernel) rfl (Nat.le_of_ble_eq_true rfl) (fun p e s m args below meth c pc ls hx hb hr hlk d => ret_I hx hb hr hlk d) ?_
  intro p e s m args below meth c ls Qq hx hb hml hown hts hK hP hend hl
  have hl : lv_has ls 5 [(0, .ref (a 0))] := hl
  obtain ⟨hv1, hv2, hv3, hv4, hv5, hv6⟩ := id hv
  have hq1 := hh_le v
  have hq2 := hh_tt v
  refine lv_aload_n hx hb dX0_ruledOut_0 rfl (lv_at hl 0 rfl) ?_
  refine rd_V (rest := []) ⟨hx, hb, hml, hown, hts⟩ (c_X0_headsNow l D κ a v hv) g_X0_69 n_X0_headsNow ⟨Nat.le_of_ble_eq_true rfl, Nat.le_of_ble_eq_true rfl⟩ hK hP rfl rfl rfl hl.1 rfl (Nat.le_of_ble_eq_true rfl) dX0_ruledOut_1 ⟨Nat.zero_le _, Nat.zero_le _⟩ ?_
  refine lv_istore_n (lv' := [(1, .int (nI (hh_ v))), (0, .ref (a 0))]) hx hb dX0_ruledOut_4 rfl hl (by decide) rfl (fun ls hl => ?_)
  refine lv_aload_n hx hb dX0_ruledOut_5 rfl (lv_at hl 1 rfl) ?_
  refine rd_V (rest := []) ⟨hx, hb, hml, hown, hts⟩ (c_X0_tailsNow l D κ a v hv) g_X0_73 n_X0_tailsNow ⟨Nat.le_of_ble_eq_true rfl, Nat.le_of_ble_eq_true rfl⟩ hK hP rfl rfl rfl hl.1 rfl (Nat.le_of_ble_eq_true rfl) dX0_ruledOut_6 ⟨Nat.zero_le _, Nat.zero_le _⟩ ?_
  refine lv_istore_n (lv' := [(2, .int (nI (tt_ v))), (1, .int (nI (hh_ v))), (0, .ref (a 0))]) hx hb dX0_ruledOut_9 rfl hl (by decide) rfl (fun ls hl => ?_)
  refine lv_iconst (v := nI (0)) hx hb dX0_ruledOut_10 (by decide) ?_
  refine lv_istore_n (lv' := [(3, .int (nI (0))), (2, .int (nI (tt_ v))), (1, .int (nI (hh_ v))), (0, .ref (a 0))]) hx hb dX0_ruledOut_11 rfl hl (by decide) rfl (fun ls hl => ?_)
  refine lv_iconst (v := nI (0)) hx hb dX0_ruledOut_12 (by decide) ?_
  refine lv_istore (lv' := [(4, .int (nI (0))), (3, .int (nI (0))), (2, .int (nI (tt_ v))), (1, .int (nI (hh_ v))), (0, .ref (a 0))]) hx hb dX0_ruledOut_13 hl (by decide) rfl (fun ls hl => ?_)
  suffices hloop_15 : ∀ (n_15 i : Nat) (ls : Array Slot), i + n_15 = vs_c v → lv_has ls 5 [(0, .ref (a 0)), (1, .int (nI (hh_ v))), (2, .int (nI (tt_ v))), (3, .int (nI (sm_ (gof_ v) i))), (4, .int (nI (i)))] → W p l e (rm_ 2 53) s m args below meth c s.heap [] 0 0 Qq (F0 m 15 ls []) from hloop_15 (vs_c v - 0) (0) ls (by omega) (lv_cast (k := [(0, .ref (a 0)), (1, .int (nI (hh_ v))), (2, .int (nI (tt_ v))), (3, .int (nI (0))), (4, .int (nI (0)))]) (lv_sub hl [4, 3, 2, 1, 0] rfl) (lc_cons rfl (lc_cons rfl (lc_cons rfl (lc_cons (congrArg (fun z : Nat => ((3 : Nat), Value.int (nI z))) (show (0 : Nat) = sm_ (gof_ v) 0 from by first | rfl | omega)) (lc_cons rfl rfl))))))
  intro n_15
  induction n_15 with
  | zero =>
    intro i ls hin_15 hl
    have hi_15 : i = vs_c v := by omega
    have hb1 := wt_b hv i (a := hh_ v) (b := tt_ v) (by omega)
    refine lv_iload hx hb dX0_ruledOut_15 (lv_at hl 4 rfl) ?_
    refine lv_aload_n hx hb dX0_ruledOut_17 rfl (lv_at hl 0 rfl) ?_
    refine va_get (D := D) (ci := 0) (v := .int (nI (vs_c v))) (C := RX0) (T := TX0) (N := 7) hx hb hts i_X0 hown hK hP 0 rfl rfl 4 (by decide) (hts _ q_f_X0_25) (fun _ h9 => h9) rfl dX0_ruledOut_18 ?_
    refine nv_icmp_ge (tgt := 46) hx hb dX0_ruledOut_21 (by decide) (by omega) (by omega) (fun c_21 => ?_) (fun z => absurd z (by omega))
    refine lv_iload_n hx hb dX0_ruledOut_46 rfl (lv_at hl 3 rfl) ?_
    refine nv_topi (congrArg nI (show (sm_ (gof_ v) i : Nat) = go_ v from by rw [hi_15]; rfl)) ?_
    exact hend _ _ dX0_ruledOut_47
  | succ n_15 ih_15 =>
    intro i ls hin_15 hl
    have hb1 := wt_b hv i (a := hh_ v) (b := tt_ v) (by omega)
    refine lv_iload hx hb dX0_ruledOut_15 (lv_at hl 4 rfl) ?_
    refine lv_aload_n hx hb dX0_ruledOut_17 rfl (lv_at hl 0 rfl) ?_
    refine va_get (D := D) (ci := 0) (v := .int (nI (vs_c v))) (C := RX0) (T := TX0) (N := 7) hx hb hts i_X0 hown hK hP 0 rfl rfl 4 (by decide) (hts _ q_f_X0_25) (fun _ h9 => h9) rfl dX0_ruledOut_18 ?_
    refine nv_icmp_ge (tgt := 46) hx hb dX0_ruledOut_21 (by decide) (by omega) (by omega) (fun z => absurd z (by omega)) (fun c_21 => ?_)
    refine lv_aload_n hx hb dX0_ruledOut_24 rfl (lv_at hl 0 rfl) ?_
    refine lv_iload hx hb dX0_ruledOut_25 (lv_at hl 4 rfl) ?_
    refine lv_iload_n hx hb dX0_ruledOut_27 rfl (lv_at hl 1 rfl) ?_
    refine lv_iload_n hx hb dX0_ruledOut_28 rfl (lv_at hl 2 rfl) ?_
    refine rd_V (rest := []) ⟨hx, hb, hml, hown, hts⟩ (c_X0_coinWeightAt l D κ a v hv (i) (hh_ v) (tt_ v) (by omega) (by omega) (by omega)) g_X0_93 n_X0_coinWeightAt ⟨Nat.le_of_ble_eq_true rfl, Nat.le_of_ble_eq_true rfl⟩ hK hP rfl rfl rfl hl.1 rfl (Nat.le_of_ble_eq_true rfl) dX0_ruledOut_29 ⟨Nat.zero_le _, Nat.zero_le _⟩ ?_
    refine lv_lconst (v := lN (0)) hx hb dX0_ruledOut_32 (by decide) ?_
    refine nv_lc_ne (tgt := 40) hx hb dX0_ruledOut_33 dX0_ruledOut_34 (by decide) (by omega) (by omega) (fun c_34 => ?_) (fun c_34 => ?_)
    · refine lv_iinc (v := nI (i + 1)) (lv' := [(4, .int (nI (i + 1))), (0, .ref (a 0)), (1, .int (nI (hh_ v))), (2, .int (nI (tt_ v))), (3, .int (nI (sm_ (gof_ v) i)))]) hx hb dX0_ruledOut_40 hl (k := 4) rfl (nI_add _ _) (by decide) rfl (fun ls hl => ?_)
      refine lv_goto (tgt := 15) hx hb dX0_ruledOut_43 (by decide) ?_
      exact ih_15 (i + 1) ls (by omega) (lv_cast (k := [(0, .ref (a 0)), (1, .int (nI (hh_ v))), (2, .int (nI (tt_ v))), (3, .int (nI (sm_ (gof_ v) i))), (4, .int (nI (i + 1)))]) (lv_sub hl [1, 2, 3, 4, 0] rfl) (lc_cons rfl (lc_cons rfl (lc_cons rfl (lc_cons (congrArg (fun z : Nat => ((3 : Nat), Value.int (nI z))) (show (sm_ (gof_ v) i : Nat) = sm_ (gof_ v) (i + 1) from by simp [sm_, gof_, c_21, c_34])) (lc_cons (congrArg (fun z : Nat => ((4 : Nat), Value.int (nI z))) (show (i + 1 : Nat) = (i + 1) from by first | rfl | omega)) rfl))))))
    · refine lv_iinc (v := nI ((sm_ (gof_ v) i) + 1)) (lv' := [(3, .int (nI ((sm_ (gof_ v) i) + 1))), (0, .ref (a 0)), (1, .int (nI (hh_ v))), (2, .int (nI (tt_ v))), (4, .int (nI (i)))]) hx hb dX0_ruledOut_37 hl (k := 3) rfl (nI_add _ _) (by decide) rfl (fun ls hl => ?_)
      refine lv_iinc (v := nI (i + 1)) (lv' := [(4, .int (nI (i + 1))), (3, .int (nI ((sm_ (gof_ v) i) + 1))), (0, .ref (a 0)), (1, .int (nI (hh_ v))), (2, .int (nI (tt_ v)))]) hx hb dX0_ruledOut_40 hl (k := 4) rfl (nI_add _ _) (by decide) rfl (fun ls hl => ?_)
      refine lv_goto (tgt := 15) hx hb dX0_ruledOut_43 (by decide) ?_
      exact ih_15 (i + 1) ls (by omega) (lv_cast (k := [(0, .ref (a 0)), (1, .int (nI (hh_ v))), (2, .int (nI (tt_ v))), (3, .int (nI ((sm_ (gof_ v) i) + 1))), (4, .int (nI (i + 1)))]) (lv_sub hl [2, 3, 4, 1, 0] rfl) (lc_cons rfl (lc_cons rfl (lc_cons rfl (lc_cons (congrArg (fun z : Nat => ((3 : Nat), Value.int (nI z))) (show ((sm_ (gof_ v) i) + 1 : Nat) = sm_ (gof_ v) (i + 1) from by simp [sm_, gof_, c_21, c_34])) (lc_cons (congrArg (fun z : Nat => ((4 : Nat), Value.int (nI z))) (show (i + 1 : Nat) = (i + 1) from by first | rfl | omega)) rfl))))))
set_option maxHeartbeats 4000000 in
set_option maxRecDepth 100000 in
theorem c_X0_coinPercent (l : Launch) (D : va_G) (κ : Nat → ClassId) (a : Nat → Nat) (v : VS) (hv : ok_v v) (c_ : Nat) (hc : c_ < vs_c v) (hw : 0 < wl_ v (hh_ v) (tt_ v)) : Rd l yX0_coinPercent cX0_coinPercent 2 (some .int) 4 98 (Pw D (kt_ κ) (xw κ a v) [.ref (a 0), .int (nI (c_))]) (.int (nI (wt_ v c_ (hh_ v) (tt_ v) * 100 / wl_ v (hh_ v) (tt_ v)))) := by
  refine rd_intro (own := RX0) (by decide +kernel) rfl (Nat.le_of_ble_eq_true rfl) (fun p e s m args below meth c pc ls hx hb hr hlk d => ret_I hx hb hr hlk d) ?_
  intro p e s m args below meth c ls Qq hx hb hml hown hts hK hP hend hl
  have hl : lv_has ls 2 [(0, .ref (a 0)), (1, .int (nI (c_)))] := hl
  obtain ⟨hv1, hv2, hv3, hv4, hv5, hv6⟩ := id hv
  have hq1 := hh_le v
  have hq2 := hh_tt v
  have hb1 := wt_b hv c_ (a := hh_ v) (b := tt_ v) (by omega)
  have hb2 := wl_b hv (a := hh_ v) (b := tt_ v) (by omega)
  refine lv_aload_n hx hb dX0_coinPercent_0 rfl (lv_at hl 0 rfl) ?_
  refine lv_iload_n hx hb dX0_coinPercent_1 rfl (lv_at hl 1 rfl) ?_
  refine rd_VN (rest := []) ⟨hx, hb, hml, hown, hts⟩ (c_X0_needCoin l D κ a v hv (c_) (by omega)) g_X0_58 n_X0_needCoin ⟨Nat.le_of_ble_eq_true rfl, Nat.le_of_ble_eq_true rfl⟩ hK hP rfl rfl rfl hl.1 rfl (Nat.le_of_ble_eq_true rfl) dX0_coinPercent_2 ⟨Nat.zero_le _, Nat.zero_le _⟩ ?_
  refine lv_aload_n hx hb dX0_coinPercent_5 rfl (lv_at hl 0 rfl) ?_
  refine lv_iload_n hx hb dX0_coinPercent_6 rfl (lv_at hl 1 rfl) ?_
  refine lv_aload_n hx hb dX0_coinPercent_7 rfl (lv_at hl 0 rfl) ?_
  refine rd_V (rest := [.int (nI (c_)), .ref (a 0)]) ⟨hx, hb, hml, hown, hts⟩ (c_X0_headsNow l D κ a v hv) g_X0_69 n_X0_headsNow ⟨Nat.le_of_ble_eq_true rfl, Nat.le_of_ble_eq_true rfl⟩ hK hP rfl rfl rfl hl.1 rfl (Nat.le_of_ble_eq_true rfl) dX0_coinPercent_8 ⟨Nat.zero_le _, Nat.zero_le _⟩ ?_
  refine lv_aload_n hx hb dX0_coinPercent_11 rfl (lv_at hl 0 rfl) ?_
  refine rd_V (rest := [.int (nI (hh_ v)), .int (nI (c_)), .ref (a 0)]) ⟨hx, hb, hml, hown, hts⟩ (c_X0_tailsNow l D κ a v hv) g_X0_73 n_X0_tailsNow ⟨Nat.le_of_ble_eq_true rfl, Nat.le_of_ble_eq_true rfl⟩ hK hP rfl rfl rfl hl.1 rfl (Nat.le_of_ble_eq_true rfl) dX0_coinPercent_12 ⟨Nat.zero_le _, Nat.zero_le _⟩ ?_
  refine rd_V (rest := []) ⟨hx, hb, hml, hown, hts⟩ (c_X0_coinWeightAt l D κ a v hv (c_) (hh_ v) (tt_ v) (by omega) (by omega) (by omega)) g_X0_93 n_X0_coinWeightAt ⟨Nat.le_of_ble_eq_true rfl, Nat.le_of_ble_eq_true rfl⟩ hK hP rfl rfl rfl hl.1 rfl (Nat.le_of_ble_eq_true rfl) dX0_coinPercent_15 ⟨Nat.zero_le _, Nat.zero_le _⟩ ?_
  refine lv_aload_n hx hb dX0_coinPercent_18 rfl (lv_at hl 0 rfl) ?_
  refine rd_V (rest := [.long (lN (wt_ v c_ (hh_ v) (tt_ v)))]) ⟨hx, hb, hml, hown, hts⟩ (c_X0_wholeNow l D κ a v hv) g_X0_100 n_X0_wholeNow ⟨Nat.le_of_ble_eq_true rfl, Nat.le_of_ble_eq_true rfl⟩ hK hP rfl rfl rfl hl.1 rfl (Nat.le_of_ble_eq_true rfl) dX0_coinPercent_19 ⟨Nat.zero_le _, Nat.zero_le _⟩ ?_
  refine rd_S (rest := []) ⟨hx, hb, hml, hown, hts⟩ (c_X0_percent l (wt_ v c_ (hh_ v) (tt_ v)) (wl_ v (hh_ v) (tt_ v)) (by omega) (by omega) (by omega)) g_X0_104 n_X0_percent ⟨Nat.le_of_ble_eq_true rfl, Nat.le_of_ble_eq_true rfl⟩ rfl hl.1 rfl (Nat.le_of_ble_eq_true rfl) dX0_coinPercent_22 ⟨Nat.zero_le _, Nat.zero_le _⟩ ?_
  refine nv_topi (congrArg nI (show ((wt_ v c_ (hh_ v) (tt_ v)) * 100 / (wl_ v (hh_ v) (tt_ v)) : Nat) = wt_ v c_ (hh_ v) (tt_ v) * 100 / wl_ v (hh_ v) (tt_ v) from by first | rfl | omega)) ?_
  exact hend _ _ dX0_coinPercent_25
set_option maxHeartbeats 4000000 in
set_option maxRecDepth 100000 in
theorem c_X0_schoolPercent (l : Launch) (D : va_G) (κ : Nat → ClassId) (a : Nat → Nat) (v : VS) (hv : ok_v v) (s_ : Nat) (hs : s_ < vs_n v) (hw : 0 < wl_ v (hh_ v) (tt_ v)) : Rd l yX0_schoolPercent cX0_schoolPercent 2 (some .int) 4 98 (Pw D (kt_ κ) (xw κ a v) [.ref (a 0), .int (nI (s_))]) (.int (nI (sc_ v s_ (hh_ v) (tt_ v) * 100 / wl_ v (hh_ v) (tt_ v)))) := by
  refine rd_intro (own := RX0) (by decide +kernel) rfl (Nat.le_of_ble_eq_true rfl) (fun p e s m args below meth c pc ls hx hb hr hlk d => ret_I hx hb hr hlk d) ?_
  intro p e s m args below meth c ls Qq hx hb hml hown hts hK hP hend hl
  have hl : lv_has ls 2 [(0, .ref (a 0)), (1, .int (nI (s_)))] := hl
  obtain ⟨hv1, hv2, hv3, hv4, hv5, hv6⟩ := id hv
  have hq1 := hh_le v
  have hq2 := hh_tt v
  have hb1 := sc_b hv s_ (a := hh_ v) (b := tt_ v) (by omega)
  have hb2 := wl_b hv (a := hh_ v) (b := tt_ v) (by omega)
  refine lv_aload_n hx hb dX0_schoolPercent_0 rfl (lv_at hl 0 rfl) ?_
  refine lv_iload_n hx hb dX0_schoolPercent_1 rfl (lv_at hl 1 rfl) ?_
  refine rd_VN (rest := []) ⟨hx, hb, hml, hown, hts⟩ (c_X0_needSchool l D κ a v hv (s_) (by omega)) g_X0_54 n_X0_needSchool ⟨Nat.le_of_ble_eq_true rfl, Nat.le_of_ble_eq_true rfl⟩ hK hP rfl rfl rfl hl.1 rfl (Nat.le_of_ble_eq_true rfl) dX0_schoolPercent_2 ⟨Nat.zero_le _, Nat.zero_le _⟩ ?_
  refine lv_aload_n hx hb dX0_schoolPercent_5 rfl (lv_at hl 0 rfl) ?_
  refine lv_iload_n hx hb dX0_schoolPercent_6 rfl (lv_at hl 1 rfl) ?_
  refine rd_V (rest := []) ⟨hx, hb, hml, hown, hts⟩ (c_X0_schoolWeightNow l D κ a v hv (s_) (by omega)) g_X0_96 n_X0_schoolWeightNow ⟨Nat.le_of_ble_eq_true rfl, Nat.le_of_ble_eq_true rfl⟩ hK hP rfl rfl rfl hl.1 rfl (Nat.le_of_ble_eq_true rfl) dX0_schoolPercent_7 ⟨Nat.zero_le _, Nat.zero_le _⟩ ?_
  refine lv_aload_n hx hb dX0_schoolPercent_10 rfl (lv_at hl 0 rfl) ?_
  refine rd_V (rest := [.long (lN (sc_ v s_ (hh_ v) (tt_ v)))]) ⟨hx, hb, hml, hown, hts⟩ (c_X0_wholeNow l D κ a v hv) g_X0_100 n_X0_wholeNow ⟨Nat.le_of_ble_eq_true rfl, Nat.le_of_ble_eq_true rfl⟩ hK hP rfl rfl rfl hl.1 rfl (Nat.le_of_ble_eq_true rfl) dX0_schoolPercent_11 ⟨Nat.zero_le _, Nat.zero_le _⟩ ?_
  refine rd_S (rest := []) ⟨hx, hb, hml, hown, hts⟩ (c_X0_percent l (sc_ v s_ (hh_ v) (tt_ v)) (wl_ v (hh_ v) (tt_ v)) (by omega) (by omega) (by omega)) g_X0_104 n_X0_percent ⟨Nat.le_of_ble_eq_true rfl, Nat.le_of_ble_eq_true rfl⟩ rfl hl.1 rfl (Nat.le_of_ble_eq_true rfl) dX0_schoolPercent_14 ⟨Nat.zero_le _, Nat.zero_le _⟩ ?_
  refine nv_topi (congrArg nI (show ((sc_ v s_ (hh_ v) (tt_ v)) * 100 / (wl_ v (hh_ v) (tt_ v)) : Nat) = sc_ v s_ (hh_ v) (tt_ v) * 100 / wl_ v (hh_ v) (tt_ v) from by first | rfl | omega)) ?_
  exact hend _ _ dX0_schoolPercent_17
set_option maxHeartbeats 4000000 in
set_option maxRecDepth 100000 in
theorem c_X0_leadingCoin (l : Launch) (D : va_G) (κ : Nat → ClassId) (a : Nat → Nat) (v : VS) (hv : ok_v v) (hw : 0 < wl_ v (hh_ v) (tt_ v)) : Rd l yX0_leadingCoin cX0_leadingCoin 2 (some .int) 3 81 (Pw D (kt_ κ) (xw κ a v) [.ref (a 0)]) (.int (nI (ld_ v (hh_ v) (tt_ v) (vs_c v)))) := by
  refine rd_intro (own := RX0) (by decide +kernel) rfl (Nat.le_of_ble_eq_true rfl) (fun p e s m args below meth c pc ls hx hb hr hlk d => ret_I hx hb hr hlk d) ?_
  intro p e s m args below meth c ls Qq hx hb hml hown hts hK hP hend hl
  have hl : lv_has ls 2 [(0, .ref (a 0))] := hl
  obtain ⟨hv1, hv2, hv3, hv4, hv5, hv6⟩ := id hv
  have hq1 := hh_le v
  have hq2 := hh_tt v
  have hq3 := ld_le v (hh_ v) (tt_ v) (vs_c v)
  refine lv_aload_n hx hb dX0_leadingCoin_0 rfl (lv_at hl 0 rfl) ?_
  refine lv_aload_n hx hb dX0_leadingCoin_1 rfl (lv_at hl 0 rfl) ?_
  refine rd_V (rest := [.ref (a 0)]) ⟨hx, hb, hml, hown, hts⟩ (c_X0_headsNow l D κ a v hv) g_X0_69 n_X0_headsNow ⟨Nat.le_of_ble_eq_true rfl, Nat.le_of_ble_eq_true rfl⟩ hK hP rfl rfl rfl hl.1 rfl (Nat.le_of_ble_eq_true rfl) dX0_leadingCoin_2 ⟨Nat.zero_le _, Nat.zero_le _⟩ ?_
  refine lv_aload_n hx hb dX0_leadingCoin_5 rfl (lv_at hl 0 rfl) ?_
  refine rd_V (rest := [.int (nI (hh_ v)), .ref (a 0)]) ⟨hx, hb, hml, hown, hts⟩ (c_X0_tailsNow l D κ a v hv) g_X0_73 n_X0_tailsNow ⟨Nat.le_of_ble_eq_true rfl, Nat.le_of_ble_eq_true rfl⟩ hK hP rfl rfl rfl hl.1 rfl (Nat.le_of_ble_eq_true rfl) dX0_leadingCoin_6 ⟨Nat.zero_le _, Nat.zero_le _⟩ ?_
  refine rd_V (rest := []) ⟨hx, hb, hml, hown, hts⟩ (c_X0_leaderAt l D κ a v hv (hh_ v) (tt_ v) (by omega)) g_X0_108 n_X0_leaderAt ⟨Nat.le_of_ble_eq_true rfl, Nat.le_of_ble_eq_true rfl⟩ hK hP rfl rfl rfl hl.1 rfl (Nat.le_of_ble_eq_true rfl) dX0_leadingCoin_9 ⟨Nat.zero_le _, Nat.zero_le _⟩ ?_
  refine nv_topi (show (la_ v (hh_ v) (tt_ v) : Int32) = nI (ld_ v (hh_ v) (tt_ v) (vs_c v)) from by exact la_pos hw) ?_
  refine lv_istore_n (lv' := [(1, .int (nI (ld_ v (hh_ v) (tt_ v) (vs_c v)))), (0, .ref (a 0))]) hx hb dX0_leadingCoin_12 rfl hl (by decide) rfl (fun ls hl => ?_)
  refine lv_iload_n hx hb dX0_leadingCoin_13 rfl (lv_at hl 0 rfl) ?_
  refine lv_iconst (v := (-1)) hx hb dX0_leadingCoin_14 (by decide) ?_
  refine lv_icmp_ne (tgt := 28) hx hb dX0_leadingCoin_15 (by decide) (fun c_15 => ?_) (fun z => absurd z (nI_nm1 (by omega)))
  refine lv_iload_n hx hb dX0_leadingCoin_28 rfl (lv_at hl 0 rfl) ?_
  exact hend _ _ dX0_leadingCoin_29
set_option maxHeartbeats 4000000 in
set_option maxRecDepth 100000 in
theorem c_X0_leadingSchool (l : Launch) (D : va_G) (κ : Nat → ClassId) (a : Nat → Nat) (v : VS) (hv : ok_v v) (hw : 0 < wl_ v (hh_ v) (tt_ v)) : Rd l yX0_leadingSchool cX0_leadingSchool 7 (some .int) 3 69 (Pw D (kt_ κ) (xw κ a v) [.ref (a 0)]) (.int (nI (lsc_ v (hh_ v) (tt_ v) (vs_n v)))) := by
  refine rd_intro (own := RX0) (by decide +kernel) rfl (Nat.le_of_ble_eq_true rfl) (fun p e s m args below meth c pc ls hx hb hr hlk d => ret_I hx hb hr hlk d) ?_
  intro p e s m args below meth c ls Qq hx hb hml hown hts hK hP hend hl
  have hl : lv_has ls 7 [(0, .ref (a 0))] := hl
  obtain ⟨hv1, hv2, hv3, hv4, hv5, hv6⟩ := id hv
  have hq1 := hh_le v
  have hq2 := hh_tt v
  refine lv_iconst (v := (-1)) hx hb dX0_leadingSchool_0 (by decide) ?_
  refine lv_istore_n (lv' := [(1, .int (-1)), (0, .ref (a 0))]) hx hb dX0_leadingSchool_1 rfl hl (by decide) rfl (fun ls hl => ?_)
  refine lv_lconst (v := lN (0)) hx hb dX0_leadingSchool_2 (by decide) ?_
  refine lv_lstore_n (lv' := [(2, .long (lN (0))), (1, .int (-1)), (0, .ref (a 0))]) hx hb dX0_leadingSchool_3 rfl hl (by decide) rfl (fun ls hl => ?_)
  refine lv_iconst (v := nI (0)) hx hb dX0_leadingSchool_4 (by decide) ?_
  refine lv_istore (lv' := [(4, .int (nI (0))), (2, .long (lN (0))), (1, .int (-1)), (0, .ref (a 0))]) hx hb dX0_leadingSchool_5 hl (by decide) rfl (fun ls hl => ?_)
  suffices hloop_7 : ∀ (n_7 i : Nat) (ls : Array Slot), i + n_7 = vs_n v → lv_has ls 7 [(0, .ref (a 0)), (1, .int (ls2_ v (hh_ v) (tt_ v) i)), (2, .long (lN (gs2_ v (hh_ v) (tt_ v) i))), (4, .int (nI (i)))] → W p l e (rm_ 3 69) s m args below meth c s.heap [] 0 0 Qq (F0 m 7 ls []) from hloop_7 (vs_n v - 0) (0) ls (by omega) (lv_cast (k := [(0, .ref (a 0)), (1, .int (-1)), (2, .long (lN (0))), (4, .int (nI (0)))]) (lv_sub hl [3, 2, 1, 0] rfl) (lc_cons rfl (lc_cons (congrArg (fun z : Int32 => ((1 : Nat), Value.int z)) (show (-1 : Int32) = ls2_ v (hh_ v) (tt_ v) 0 from by rfl)) (lc_cons (congrArg (fun z : Nat => ((2 : Nat), Value.long (lN z))) (show (0 : Nat) = gs2_ v (hh_ v) (tt_ v) 0 from by first | rfl | omega)) (lc_cons rfl rfl)))))
  intro n_7
  induction n_7 with
  | zero =>
    intro i ls hin_7 hl
    have hi_7 : i = vs_n v := by omega
    have hb1 := sc_b hv i (a := hh_ v) (b := tt_ v) (by omega)
    have hb2 := gs2_b hv i (a := hh_ v) (b := tt_ v) (by omega)
    refine lv_iload hx hb dX0_leadingSchool_7 (lv_at hl 3 rfl) ?_
    refine lv_aload_n hx hb dX0_leadingSchool_9 rfl (lv_at hl 0 rfl) ?_
    refine va_get (D := D) (ci := 0) (v := .int (nI (vs_n v))) (C := RX0) (T := TX0) (N := 7) hx hb hts i_X0 hown hK hP 0 rfl rfl 5 (by decide) (hts _ q_f_X0_29) (fun _ h9 => h9) rfl dX0_leadingSchool_10 ?_
    refine nv_icmp_ge (tgt := 43) hx hb dX0_leadingSchool_13 (by decide) (by omega) (by omega) (fun c_13 => ?_) (fun z => absurd z (by omega))
    refine lv_iload_n hx hb dX0_leadingSchool_43 rfl (lv_at hl 1 rfl) ?_
    refine lv_iconst (v := (-1)) hx hb dX0_leadingSchool_44 (by decide) ?_
    refine lv_icmp_ne (tgt := 58) hx hb dX0_leadingSchool_45 (by decide) (fun c_45 => ?_) (fun z => absurd z (by rw [hi_7]; exact ls2_ne hv hw))
    refine lv_iload_n hx hb dX0_leadingSchool_58 rfl (lv_at hl 1 rfl) ?_
    refine nv_topi (show (ls2_ v (hh_ v) (tt_ v) i : Int32) = nI (lsc_ v (hh_ v) (tt_ v) (vs_n v)) from by rw [hi_7]; exact ls2_pos hw) ?_
    exact hend _ _ dX0_leadingSchool_59
  | succ n_7 ih_7 =>
    intro i ls hin_7 hl
    have hb1 := sc_b hv i (a := hh_ v) (b := tt_ v) (by omega)
    have hb2 := gs2_b hv i (a := hh_ v) (b := tt_ v) (by omega)
    refine lv_iload hx hb dX0_leadingSchool_7 (lv_at hl 3 rfl) ?_
    refine lv_aload_n hx hb dX0_leadingSchool_9 rfl (lv_at hl 0 rfl) ?_
    refine va_get (D := D) (ci := 0) (v := .int (nI (vs_n v))) (C := RX0) (T := TX0) (N := 7) hx hb hts i_X0 hown hK hP 0 rfl rfl 5 (by decide) (hts _ q_f_X0_29) (fun _ h9 => h9) rfl dX0_leadingSchool_10 ?_
    refine nv_icmp_ge (tgt := 43) hx hb dX0_leadingSchool_13 (by decide) (by omega) (by omega) (fun z => absurd z (by omega)) (fun c_13 => ?_)
    refine lv_aload_n hx hb dX0_leadingSchool_16 rfl (lv_at hl 0 rfl) ?_
    refine lv_iload hx hb dX0_leadingSchool_17 (lv_at hl 3 rfl) ?_
    refine rd_V (rest := []) ⟨hx, hb, hml, hown, hts⟩ (c_X0_schoolWeightNow l D κ a v hv (i) (by omega)) g_X0_96 n_X0_schoolWeightNow ⟨Nat.le_of_ble_eq_true rfl, Nat.le_of_ble_eq_true rfl⟩ hK hP rfl rfl rfl hl.1 rfl (Nat.le_of_ble_eq_true rfl) dX0_leadingSchool_19 ⟨Nat.zero_le _, Nat.zero_le _⟩ ?_
    refine lv_lstore (lv' := [(5, .long (lN (sc_ v i (hh_ v) (tt_ v)))), (0, .ref (a 0)), (1, .int (ls2_ v (hh_ v) (tt_ v) i)), (2, .long (lN (gs2_ v (hh_ v) (tt_ v) i))), (4, .int (nI (i)))]) hx hb dX0_leadingSchool_22 hl (by decide) rfl (fun ls hl => ?_)
    refine lv_lload hx hb dX0_leadingSchool_24 (lv_at hl 0 rfl) ?_
    refine lv_lload_n hx hb dX0_leadingSchool_26 rfl (lv_at hl 3 rfl) ?_
    refine nv_lc_le (tgt := 37) hx hb dX0_leadingSchool_27 dX0_leadingSchool_28 (by decide) (by omega) (by omega) (fun c_28 => ?_) (fun c_28 => ?_)
    · refine lv_iinc (v := nI (i + 1)) (lv' := [(4, .int (nI (i + 1))), (5, .long (lN (sc_ v i (hh_ v) (tt_ v)))), (0, .ref (a 0)), (1, .int (ls2_ v (hh_ v) (tt_ v) i)), (2, .long (lN (gs2_ v (hh_ v) (tt_ v) i)))]) hx hb dX0_leadingSchool_37 hl (k := 4) rfl (nI_add _ _) (by decide) rfl (fun ls hl => ?_)
      refine lv_goto (tgt := 7) hx hb dX0_leadingSchool_40 (by decide) ?_
      exact ih_7 (i + 1) ls (by omega) (lv_cast (k := [(0, .ref (a 0)), (1, .int (ls2_ v (hh_ v) (tt_ v) i)), (2, .long (lN (gs2_ v (hh_ v) (tt_ v) i))), (4, .int (nI (i + 1)))]) (lv_sub hl [2, 3, 4, 0] rfl) (lc_cons rfl (lc_cons (congrArg (fun z : Int32 => ((1 : Nat), Value.int z)) (show (ls2_ v (hh_ v) (tt_ v) i : Int32) = ls2_ v (hh_ v) (tt_ v) (i + 1) from by first | exact ls2_up c_28 | exact ls2_eq c_28)) (lc_cons (congrArg (fun z : Nat => ((2 : Nat), Value.long (lN z))) (show (gs2_ v (hh_ v) (tt_ v) i : Nat) = gs2_ v (hh_ v) (tt_ v) (i + 1) from by first | exact gs2_up c_28 | exact gs2_eq c_28)) (lc_cons (congrArg (fun z : Nat => ((4 : Nat), Value.int (nI z))) (show (i + 1 : Nat) = (i + 1) from by first | rfl | omega)) rfl)))))
    · refine lv_lload hx hb dX0_leadingSchool_31 (lv_at hl 0 rfl) ?_
      refine lv_lstore_n (lv' := [(2, .long (lN (sc_ v i (hh_ v) (tt_ v)))), (5, .long (lN (sc_ v i (hh_ v) (tt_ v)))), (0, .ref (a 0)), (1, .int (ls2_ v (hh_ v) (tt_ v) i)), (4, .int (nI (i)))]) hx hb dX0_leadingSchool_33 rfl hl (by decide) rfl (fun ls hl => ?_)
      refine lv_iload hx hb dX0_leadingSchool_34 (lv_at hl 4 rfl) ?_
      refine lv_istore_n (lv' := [(1, .int (nI (i))), (2, .long (lN (sc_ v i (hh_ v) (tt_ v)))), (5, .long (lN (sc_ v i (hh_ v) (tt_ v)))), (0, .ref (a 0)), (4, .int (nI (i)))]) hx hb dX0_leadingSchool_36 rfl hl (by decide) rfl (fun ls hl => ?_)
      refine lv_iinc (v := nI (i + 1)) (lv' := [(4, .int (nI (i + 1))), (1, .int (nI (i))), (2, .long (lN (sc_ v i (hh_ v) (tt_ v)))), (5, .long (lN (sc_ v i (hh_ v) (tt_ v)))), (0, .ref (a 0))]) hx hb dX0_leadingSchool_37 hl (k := 4) rfl (nI_add _ _) (by decide) rfl (fun ls hl => ?_)
      refine lv_goto (tgt := 7) hx hb dX0_leadingSchool_40 (by decide) ?_
      exact ih_7 (i + 1) ls (by omega) (lv_cast (k := [(0, .ref (a 0)), (1, .int (nI (i))), (2, .long (lN (sc_ v i (hh_ v) (tt_ v)))), (4, .int (nI (i + 1)))]) (lv_sub hl [4, 1, 2, 0] rfl) (lc_cons rfl (lc_cons (congrArg (fun z : Int32 => ((1 : Nat), Value.int z)) (show (nI (i) : Int32) = ls2_ v (hh_ v) (tt_ v) (i + 1) from by first | exact ls2_up c_28 | exact ls2_eq c_28)) (lc_cons (congrArg (fun z : Nat => ((2 : Nat), Value.long (lN z))) (show (sc_ v i (hh_ v) (tt_ v) : Nat) = gs2_ v (hh_ v) (tt_ v) (i + 1) from by first | exact gs2_up c_28 | exact gs2_eq c_28)) (lc_cons (congrArg (fun z : Nat => ((4 : Nat), Value.int (nI z))) (show (i + 1 : Nat) = (i + 1) from by first | rfl | omega)) rfl)))))
set_option maxHeartbeats 4000000 in
set_option maxRecDepth 100000 in
theorem c_X0_oddsAgainst (l : Launch) (D : va_G) (κ : Nat → ClassId) (a : Nat → Nat) (v : VS) (hv : ok_v v) (c_ : Nat) (d_ : Nat) (hc : c_ < vs_c v) (hd : d_ < vs_c v) (hz : 0 < wt_ v d_ (hh_ v) (tt_ v)) : Rd l yX0_oddsAgainst cX0_oddsAgainst 7 (some .long) 2 53 (Pw D (kt_ κ) (xw κ a v) [.ref (a 0), .int (nI (c_)), .int (nI (d_))]) (.long (lN (wt_ v c_ (hh_ v) (tt_ v) / wt_ v d_ (hh_ v) (tt_ v)))) := by
  refine rd_intro (own := RX0) (by decide +kernel) rfl (Nat.le_of_ble_eq_true rfl) (fun p e s m args below meth c pc ls hx hb hr hlk d => ret_L hx hb hr hlk d) ?_
  intro p e s m args below meth c ls Qq hx hb hml hown hts hK hP hend hl
  have hl : lv_has ls 7 [(0, .ref (a 0)), (1, .int (nI (c_))), (2, .int (nI (d_)))] := hl
  obtain ⟨hv1, hv2, hv3, hv4, hv5, hv6⟩ := id hv
  have hq1 := hh_le v
  have hq2 := hh_tt v
  have hb1 := wt_b hv c_ (a := hh_ v) (b := tt_ v) (by omega)
  have hb3 := wt_b hv d_ (a := hh_ v) (b := tt_ v) (by omega)
  refine lv_aload_n hx hb dX0_oddsAgainst_0 rfl (lv_at hl 0 rfl) ?_
  refine lv_iload_n hx hb dX0_oddsAgainst_1 rfl (lv_at hl 1 rfl) ?_
  refine rd_VN (rest := []) ⟨hx, hb, hml, hown, hts⟩ (c_X0_needCoin l D κ a v hv (c_) (by omega)) g_X0_58 n_X0_needCoin ⟨Nat.le_of_ble_eq_true rfl, Nat.le_of_ble_eq_true rfl⟩ hK hP rfl rfl rfl hl.1 rfl (Nat.le_of_ble_eq_true rfl) dX0_oddsAgainst_2 ⟨Nat.zero_le _, Nat.zero_le _⟩ ?_
  refine lv_aload_n hx hb dX0_oddsAgainst_5 rfl (lv_at hl 0 rfl) ?_
  refine lv_iload_n hx hb dX0_oddsAgainst_6 rfl (lv_at hl 2 rfl) ?_
  refine rd_VN (rest := []) ⟨hx, hb, hml, hown, hts⟩ (c_X0_needCoin l D κ a v hv (d_) (by omega)) g_X0_58 n_X0_needCoin ⟨Nat.le_of_ble_eq_true rfl, Nat.le_of_ble_eq_true rfl⟩ hK hP rfl rfl rfl hl.1 rfl (Nat.le_of_ble_eq_true rfl) dX0_oddsAgainst_7 ⟨Nat.zero_le _, Nat.zero_le _⟩ ?_
  refine lv_aload_n hx hb dX0_oddsAgainst_10 rfl (lv_at hl 0 rfl) ?_
  refine rd_V (rest := []) ⟨hx, hb, hml, hown, hts⟩ (c_X0_headsNow l D κ a v hv) g_X0_69 n_X0_headsNow ⟨Nat.le_of_ble_eq_true rfl, Nat.le_of_ble_eq_true rfl⟩ hK hP rfl rfl rfl hl.1 rfl (Nat.le_of_ble_eq_true rfl) dX0_oddsAgainst_11 ⟨Nat.zero_le _, Nat.zero_le _⟩ ?_
  refine lv_istore_n (lv' := [(3, .int (nI (hh_ v))), (0, .ref (a 0)), (1, .int (nI (c_))), (2, .int (nI (d_)))]) hx hb dX0_oddsAgainst_14 rfl hl (by decide) rfl (fun ls hl => ?_)
  refine lv_aload_n hx hb dX0_oddsAgainst_15 rfl (lv_at hl 1 rfl) ?_
  refine rd_V (rest := []) ⟨hx, hb, hml, hown, hts⟩ (c_X0_tailsNow l D κ a v hv) g_X0_73 n_X0_tailsNow ⟨Nat.le_of_ble_eq_true rfl, Nat.le_of_ble_eq_true rfl⟩ hK hP rfl rfl rfl hl.1 rfl (Nat.le_of_ble_eq_true rfl) dX0_oddsAgainst_16 ⟨Nat.zero_le _, Nat.zero_le _⟩ ?_
  refine lv_istore (lv' := [(4, .int (nI (tt_ v))), (3, .int (nI (hh_ v))), (0, .ref (a 0)), (1, .int (nI (c_))), (2, .int (nI (d_)))]) hx hb dX0_oddsAgainst_19 hl (by decide) rfl (fun ls hl => ?_)
  refine lv_aload_n hx hb dX0_oddsAgainst_21 rfl (lv_at hl 2 rfl) ?_
  refine lv_iload_n hx hb dX0_oddsAgainst_22 rfl (lv_at hl 4 rfl) ?_
  refine lv_iload_n hx hb dX0_oddsAgainst_23 rfl (lv_at hl 1 rfl) ?_
  refine lv_iload hx hb dX0_oddsAgainst_24 (lv_at hl 0 rfl) ?_
  refine rd_V (rest := []) ⟨hx, hb, hml, hown, hts⟩ (c_X0_coinWeightAt l D κ a v hv (d_) (hh_ v) (tt_ v) (by omega) (by omega) (by omega)) g_X0_93 n_X0_coinWeightAt ⟨Nat.le_of_ble_eq_true rfl, Nat.le_of_ble_eq_true rfl⟩ hK hP rfl rfl rfl hl.1 rfl (Nat.le_of_ble_eq_true rfl) dX0_oddsAgainst_26 ⟨Nat.zero_le _, Nat.zero_le _⟩ ?_
  refine lv_lstore (lv' := [(5, .long (lN (wt_ v d_ (hh_ v) (tt_ v)))), (4, .int (nI (tt_ v))), (3, .int (nI (hh_ v))), (0, .ref (a 0)), (1, .int (nI (c_))), (2, .int (nI (d_)))]) hx hb dX0_oddsAgainst_29 hl (by decide) rfl (fun ls hl => ?_)
  refine lv_lload hx hb dX0_oddsAgainst_31 (lv_at hl 0 rfl) ?_
  refine lv_lconst (v := lN (0)) hx hb dX0_oddsAgainst_33 (by decide) ?_
  refine nv_lc_ne (tgt := 48) hx hb dX0_oddsAgainst_34 dX0_oddsAgainst_35 (by decide) (by omega) (by omega) (fun c_35 => ?_) (fun z => absurd z (by omega))
  refine lv_aload_n hx hb dX0_oddsAgainst_48 rfl (lv_at hl 3 rfl) ?_
  refine lv_iload_n hx hb dX0_oddsAgainst_49 rfl (lv_at hl 4 rfl) ?_
  refine lv_iload_n hx hb dX0_oddsAgainst_50 rfl (lv_at hl 2 rfl) ?_
  refine lv_iload hx hb dX0_oddsAgainst_51 (lv_at hl 1 rfl) ?_
  refine rd_V (rest := []) ⟨hx, hb, hml, hown, hts⟩ (c_X0_coinWeightAt l D κ a v hv (c_) (hh_ v) (tt_ v) (by omega) (by omega) (by omega)) g_X0_93 n_X0_coinWeightAt ⟨Nat.le_of_ble_eq_true rfl, Nat.le_of_ble_eq_true rfl⟩ hK hP rfl rfl rfl hl.1 rfl (Nat.le_of_ble_eq_true rfl) dX0_oddsAgainst_53 ⟨Nat.zero_le _, Nat.zero_le _⟩ ?_
  refine lv_lload hx hb dX0_oddsAgainst_56 (lv_at hl 0 rfl) ?_
  refine nv_ldiv hx hb dX0_oddsAgainst_58 (by omega) (by omega) (by omega) rfl ?_
  refine nv_topl (congrArg lN (show ((wt_ v c_ (hh_ v) (tt_ v)) / (wt_ v d_ (hh_ v) (tt_ v)) : Nat) = wt_ v c_ (hh_ v) (tt_ v) / wt_ v d_ (hh_ v) (tt_ v) from by first | rfl | omega)) ?_
  exact hend _ _ dX0_oddsAgainst_59
set_option maxHeartbeats 4000000 in
set_option maxRecDepth 100000 in
theorem c_X0_surpriseOf (l : Launch) (D : va_G) (κ : Nat → ClassId) (a : Nat → Nat) (v : VS) (hv : ok_v v) (t_ : Nat) (ht : t_ < vs_t v) : Rd l yX0_surpriseOf cX0_surpriseOf 2 (some .int) 5 130 (Pw D (kt_ κ) (xw κ a v) [.ref (a 0), .int (nI (t_))]) (.int (nI (sa_ v t_))) := by
  refine rd_intro (own := RX0) (by decide +kernel) rfl (Nat.le_of_ble_eq_true rfl) (fun p e s m args below meth c pc ls hx hb hr hlk d => ret_I hx hb hr hlk d) ?_
  intro p e s m args below meth c ls Qq hx hb hml hown hts hK hP hend hl
  have hl : lv_has ls 2 [(0, .ref (a 0)), (1, .int (nI (t_)))] := hl
  obtain ⟨hv1, hv2, hv3, hv4, hv5, hv6⟩ := id hv
  refine lv_aload_n hx hb dX0_surpriseOf_0 rfl (lv_at hl 0 rfl) ?_
  refine lv_iload_n hx hb dX0_surpriseOf_1 rfl (lv_at hl 1 rfl) ?_
  refine rd_VN (rest := []) ⟨hx, hb, hml, hown, hts⟩ (c_X0_needToss l D κ a v hv (t_) (by omega)) g_X0_82 n_X0_needToss ⟨Nat.le_of_ble_eq_true rfl, Nat.le_of_ble_eq_true rfl⟩ hK hP rfl rfl rfl hl.1 rfl (Nat.le_of_ble_eq_true rfl) dX0_surpriseOf_2 ⟨Nat.zero_le _, Nat.zero_le _⟩ ?_
  refine lv_aload_n hx hb dX0_surpriseOf_5 rfl (lv_at hl 0 rfl) ?_
  refine lv_iload_n hx hb dX0_surpriseOf_6 rfl (lv_at hl 1 rfl) ?_
  refine rd_V (rest := []) ⟨hx, hb, hml, hown, hts⟩ (c_X0_surpriseAt l D κ a v hv (t_) (by omega)) g_X0_116 n_X0_surpriseAt ⟨Nat.le_of_ble_eq_true rfl, Nat.le_of_ble_eq_true rfl⟩ hK hP rfl rfl rfl hl.1 rfl (Nat.le_of_ble_eq_true rfl) dX0_surpriseOf_7 ⟨Nat.zero_le _, Nat.zero_le _⟩ ?_
  exact hend _ _ dX0_surpriseOf_10
set_option maxHeartbeats 4000000 in
set_option maxRecDepth 100000 in
theorem c_X0_allSurprise (l : Launch) (D : va_G) (κ : Nat → ClassId) (a : Nat → Nat) (v : VS) (hv : ok_v v) : Rd l yX0_allSurprise cX0_allSurprise 3 (some .int) 5 130 (Pw D (kt_ κ) (xw κ a v) [.ref (a 0)]) (.int (nI (as_ v))) := by
  refine rd_intro (own := RX0) (by decide +kernel) rfl (Nat.le_of_ble_eq_true rfl) (fun p e s m args below meth c pc ls hx hb hr hlk d => ret_I hx hb hr hlk d) ?_
  intro p e s m args below meth c ls Qq hx hb hml hown hts hK hP hend hl
  have hl : lv_has ls 3 [(0, .ref (a 0))] := hl
  obtain ⟨hv1, hv2, hv3, hv4, hv5, hv6⟩ := id hv
  refine lv_iconst (v := nI (0)) hx hb dX0_allSurprise_0 (by decide) ?_
  refine lv_istore_n (lv' := [(1, .int (nI (0))), (0, .ref (a 0))]) hx hb dX0_allSurprise_1 rfl hl (by decide) rfl (fun ls hl => ?_)
  refine lv_iconst (v := nI (0)) hx hb dX0_allSurprise_2 (by decide) ?_
  refine lv_istore_n (lv' := [(2, .int (nI (0))), (1, .int (nI (0))), (0, .ref (a 0))]) hx hb dX0_allSurprise_3 rfl hl (by decide) rfl (fun ls hl => ?_)
  suffices hloop_4 : ∀ (n_4 i : Nat) (ls : Array Slot), i + n_4 = vs_t v → lv_has ls 3 [(0, .ref (a 0)), (1, .int (nI (sm_ (sa_ v) i))), (2, .int (nI (i)))] → W p l e (rm_ 5 130) s m args below meth c s.heap [] 0 0 Qq (F0 m 4 ls []) from hloop_4 (vs_t v - 0) (0) ls (by omega) (lv_cast (k := [(0, .ref (a 0)), (1, .int (nI (0))), (2, .int (nI (0)))]) (lv_sub hl [2, 1, 0] rfl) (lc_cons rfl (lc_cons (congrArg (fun z : Nat => ((1 : Nat), Value.int (nI z))) (show (0 : Nat) = sm_ (sa_ v) 0 from by first | rfl | omega)) (lc_cons rfl rfl))))
  intro n_4
  induction n_4 with
  | zero =>
    intro i ls hin_4 hl
    have hi_4 : i = vs_t v := by omega
    refine lv_iload_n hx hb dX0_allSurprise_4 rfl (lv_at hl 2 rfl) ?_
    refine lv_aload_n hx hb dX0_allSurprise_5 rfl (lv_at hl 0 rfl) ?_
    refine va_get (D := D) (ci := 0) (v := .int (nI (vs_t v))) (C := RX0) (T := TX0) (N := 7) hx hb hts i_X0 hown hK hP 0 rfl rfl 6 (by decide) (hts _ q_f_X0_32) (fun _ h9 => h9) rfl dX0_allSurprise_6 ?_
    refine nv_icmp_ge (tgt := 26) hx hb dX0_allSurprise_9 (by decide) (by omega) (by omega) (fun c_9 => ?_) (fun z => absurd z (by omega))
    refine lv_iload_n hx hb dX0_allSurprise_26 rfl (lv_at hl 1 rfl) ?_
    refine nv_topi (congrArg nI (show (sm_ (sa_ v) i : Nat) = as_ v from by rw [hi_4]; rfl)) ?_
    exact hend _ _ dX0_allSurprise_27
  | succ n_4 ih_4 =>
    intro i ls hin_4 hl
    refine lv_iload_n hx hb dX0_allSurprise_4 rfl (lv_at hl 2 rfl) ?_
    refine lv_aload_n hx hb dX0_allSurprise_5 rfl (lv_at hl 0 rfl) ?_
    refine va_get (D := D) (ci := 0) (v := .int (nI (vs_t v))) (C := RX0) (T := TX0) (N := 7) hx hb hts i_X0 hown hK hP 0 rfl rfl 6 (by decide) (hts _ q_f_X0_32) (fun _ h9 => h9) rfl dX0_allSurprise_6 ?_
    refine nv_icmp_ge (tgt := 26) hx hb dX0_allSurprise_9 (by decide) (by omega) (by omega) (fun z => absurd z (by omega)) (fun c_9 => ?_)
    refine lv_iload_n hx hb dX0_allSurprise_12 rfl (lv_at hl 1 rfl) ?_
    refine lv_aload_n hx hb dX0_allSurprise_13 rfl (lv_at hl 0 rfl) ?_
    refine lv_iload_n hx hb dX0_allSurprise_14 rfl (lv_at hl 2 rfl) ?_
    refine rd_V (rest := [.int (nI (sm_ (sa_ v) i))]) ⟨hx, hb, hml, hown, hts⟩ (c_X0_surpriseAt l D κ a v hv (i) (by omega)) g_X0_116 n_X0_surpriseAt ⟨Nat.le_of_ble_eq_true rfl, Nat.le_of_ble_eq_true rfl⟩ hK hP rfl rfl rfl hl.1 rfl (Nat.le_of_ble_eq_true rfl) dX0_allSurprise_15 ⟨Nat.zero_le _, Nat.zero_le _⟩ ?_
    refine nv_iadd hx hb dX0_allSurprise_18 rfl ?_
    refine lv_istore_n (lv' := [(1, .int (nI ((sm_ (sa_ v) i) + (sa_ v i)))), (0, .ref (a 0)), (2, .int (nI (i)))]) hx hb dX0_allSurprise_19 rfl hl (by decide) rfl (fun ls hl => ?_)
    refine lv_iinc (v := nI (i + 1)) (lv' := [(2, .int (nI (i + 1))), (1, .int (nI ((sm_ (sa_ v) i) + (sa_ v i)))), (0, .ref (a 0))]) hx hb dX0_allSurprise_20 hl (k := 2) rfl (nI_add _ _) (by decide) rfl (fun ls hl => ?_)
    refine lv_goto (tgt := 4) hx hb dX0_allSurprise_23 (by decide) ?_
    exact ih_4 (i + 1) ls (by omega) (lv_cast (k := [(0, .ref (a 0)), (1, .int (nI ((sm_ (sa_ v) i) + (sa_ v i)))), (2, .int (nI (i + 1)))]) (lv_sub hl [2, 1, 0] rfl) (lc_cons rfl (lc_cons (congrArg (fun z : Nat => ((1 : Nat), Value.int (nI z))) (show ((sm_ (sa_ v) i) + (sa_ v i) : Nat) = sm_ (sa_ v) (i + 1) from by first | rfl | omega)) (lc_cons (congrArg (fun z : Nat => ((2 : Nat), Value.int (nI z))) (show (i + 1 : Nat) = (i + 1) from by first | rfl | omega)) rfl))))
set_option maxHeartbeats 4000000 in
set_option maxRecDepth 100000 in
theorem c_X0_greatestSurprise (l : Launch) (D : va_G) (κ : Nat → ClassId) (a : Nat → Nat) (v : VS) (hv : ok_v v) : Rd l yX0_greatestSurprise cX0_greatestSurprise 5 (some .int) 5 130 (Pw D (kt_ κ) (xw κ a v) [.ref (a 0)]) (.int (fS_ v (vs_t v))) := by
  refine rd_intro (own := RX0) (by decide +kernel) rfl (Nat.le_of_ble_eq_true rfl) (fun p e s m args below meth c pc ls hx hb hr hlk d => ret_I hx hb hr hlk d) ?_
  intro p e s m args below meth c ls Qq hx hb hml hown hts hK hP hend hl
  have hl : lv_has ls 5 [(0, .ref (a 0))] := hl
  obtain ⟨hv1, hv2, hv3, hv4, hv5, hv6⟩ := id hv
  refine lv_iconst (v := (-1)) hx hb dX0_greatestSurprise_0 (by decide) ?_
  refine lv_istore_n (lv' := [(1, .int (-1)), (0, .ref (a 0))]) hx hb dX0_greatestSurprise_1 rfl hl (by decide) rfl (fun ls hl => ?_)
  refine lv_iconst (v := (-1)) hx hb dX0_greatestSurprise_2 (by decide) ?_
  refine lv_istore_n (lv' := [(2, .int (-1)), (1, .int (-1)), (0, .ref (a 0))]) hx hb dX0_greatestSurprise_3 rfl hl (by decide) rfl (fun ls hl => ?_)
  refine lv_iconst (v := nI (0)) hx hb dX0_greatestSurprise_4 (by decide) ?_
  refine lv_istore_n (lv' := [(3, .int (nI (0))), (2, .int (-1)), (1, .int (-1)), (0, .ref (a 0))]) hx hb dX0_greatestSurprise_5 rfl hl (by decide) rfl (fun ls hl => ?_)
  suffices hloop_6 : ∀ (n_6 i : Nat) (ls : Array Slot), i + n_6 = vs_t v → lv_has ls 5 [(0, .ref (a 0)), (1, .int (fS_ v i)), (2, .int (gS_ v i)), (3, .int (nI (i)))] → W p l e (rm_ 5 130) s m args below meth c s.heap [] 0 0 Qq (F0 m 6 ls []) from hloop_6 (vs_t v - 0) (0) ls (by omega) (lv_cast (k := [(0, .ref (a 0)), (1, .int (-1)), (2, .int (-1)), (3, .int (nI (0)))]) (lv_sub hl [3, 2, 1, 0] rfl) (lc_cons rfl (lc_cons (congrArg (fun z : Int32 => ((1 : Nat), Value.int z)) (show (-1 : Int32) = fS_ v 0 from by rfl)) (lc_cons (congrArg (fun z : Int32 => ((2 : Nat), Value.int z)) (show (-1 : Int32) = gS_ v 0 from by rfl)) (lc_cons rfl rfl)))))
  intro n_6
  induction n_6 with
  | zero =>
    intro i ls hin_6 hl
    have hi_6 : i = vs_t v := by omega
    refine lv_iload_n hx hb dX0_greatestSurprise_6 rfl (lv_at hl 3 rfl) ?_
    refine lv_aload_n hx hb dX0_greatestSurprise_7 rfl (lv_at hl 0 rfl) ?_
    refine va_get (D := D) (ci := 0) (v := .int (nI (vs_t v))) (C := RX0) (T := TX0) (N := 7) hx hb hts i_X0 hown hK hP 0 rfl rfl 6 (by decide) (hts _ q_f_X0_32) (fun _ h9 => h9) rfl dX0_greatestSurprise_8 ?_
    refine nv_icmp_ge (tgt := 38) hx hb dX0_greatestSurprise_11 (by decide) (by omega) (by omega) (fun c_11 => ?_) (fun z => absurd z (by omega))
    refine lv_iload_n hx hb dX0_greatestSurprise_38 rfl (lv_at hl 1 rfl) ?_
    refine nv_topi (show (fS_ v i : Int32) = fS_ v (vs_t v) from by rw [hi_6]) ?_
    exact hend _ _ dX0_greatestSurprise_39
  | succ n_6 ih_6 =>
    intro i ls hin_6 hl
    refine lv_iload_n hx hb dX0_greatestSurprise_6 rfl (lv_at hl 3 rfl) ?_
    refine lv_aload_n hx hb dX0_greatestSurprise_7 rfl (lv_at hl 0 rfl) ?_
    refine va_get (D := D) (ci := 0) (v := .int (nI (vs_t v))) (C := RX0) (T := TX0) (N := 7) hx hb hts i_X0 hown hK hP 0 rfl rfl 6 (by decide) (hts _ q_f_X0_32) (fun _ h9 => h9) rfl dX0_greatestSurprise_8 ?_
    refine nv_icmp_ge (tgt := 38) hx hb dX0_greatestSurprise_11 (by decide) (by omega) (by omega) (fun z => absurd z (by omega)) (fun c_11 => ?_)
    refine lv_aload_n hx hb dX0_greatestSurprise_14 rfl (lv_at hl 0 rfl) ?_
    refine lv_iload_n hx hb dX0_greatestSurprise_15 rfl (lv_at hl 3 rfl) ?_
    refine rd_V (rest := []) ⟨hx, hb, hml, hown, hts⟩ (c_X0_surpriseAt l D κ a v hv (i) (by omega)) g_X0_116 n_X0_surpriseAt ⟨Nat.le_of_ble_eq_true rfl, Nat.le_of_ble_eq_true rfl⟩ hK hP rfl rfl rfl hl.1 rfl (Nat.le_of_ble_eq_true rfl) dX0_greatestSurprise_16 ⟨Nat.zero_le _, Nat.zero_le _⟩ ?_
    refine lv_istore (lv' := [(4, .int (nI (sa_ v i))), (0, .ref (a 0)), (1, .int (fS_ v i)), (2, .int (gS_ v i)), (3, .int (nI (i)))]) hx hb dX0_greatestSurprise_19 hl (by decide) rfl (fun ls hl => ?_)
    refine lv_iload hx hb dX0_greatestSurprise_21 (lv_at hl 0 rfl) ?_
    refine lv_iload_n hx hb dX0_greatestSurprise_23 rfl (lv_at hl 3 rfl) ?_
    refine lv_icmp_le (tgt := 32) hx hb dX0_greatestSurprise_24 (by decide) (fun c_24 => ?_) (fun c_24 => ?_)
    · refine lv_iinc (v := nI (i + 1)) (lv' := [(3, .int (nI (i + 1))), (4, .int (nI (sa_ v i))), (0, .ref (a 0)), (1, .int (fS_ v i)), (2, .int (gS_ v i))]) hx hb dX0_greatestSurprise_32 hl (k := 4) rfl (nI_add _ _) (by decide) rfl (fun ls hl => ?_)
      refine lv_goto (tgt := 6) hx hb dX0_greatestSurprise_35 (by decide) ?_
      exact ih_6 (i + 1) ls (by omega) (lv_cast (k := [(0, .ref (a 0)), (1, .int (fS_ v i)), (2, .int (gS_ v i)), (3, .int (nI (i + 1)))]) (lv_sub hl [2, 3, 4, 0] rfl) (lc_cons rfl (lc_cons (congrArg (fun z : Int32 => ((1 : Nat), Value.int z)) (show (fS_ v i : Int32) = fS_ v (i + 1) from by first | exact (gS_up c_24).2 | exact (gS_eq c_24).2)) (lc_cons (congrArg (fun z : Int32 => ((2 : Nat), Value.int z)) (show (gS_ v i : Int32) = gS_ v (i + 1) from by first | exact (gS_up c_24).1 | exact (gS_eq c_24).1)) (lc_cons (congrArg (fun z : Nat => ((3 : Nat), Value.int (nI z))) (show (i + 1 : Nat) = (i + 1) from by first | rfl | omega)) rfl)))))
    · refine lv_iload hx hb dX0_greatestSurprise_27 (lv_at hl 0 rfl) ?_
      refine lv_istore_n (lv' := [(2, .int (nI (sa_ v i))), (4, .int (nI (sa_ v i))), (0, .ref (a 0)), (1, .int (fS_ v i)), (3, .int (nI (i)))]) hx hb dX0_greatestSurprise_29 rfl hl (by decide) rfl (fun ls hl => ?_)
      refine lv_iload_n hx hb dX0_greatestSurprise_30 rfl (lv_at hl 4 rfl) ?_
      refine lv_istore_n (lv' := [(1, .int (nI (i))), (2, .int (nI (sa_ v i))), (4, .int (nI (sa_ v i))), (0, .ref (a 0)), (3, .int (nI (i)))]) hx hb dX0_greatestSurprise_31 rfl hl (by decide) rfl (fun ls hl => ?_)
      refine lv_iinc (v := nI (i + 1)) (lv' := [(3, .int (nI (i + 1))), (1, .int (nI (i))), (2, .int (nI (sa_ v i))), (4, .int (nI (sa_ v i))), (0, .ref (a 0))]) hx hb dX0_greatestSurprise_32 hl (k := 4) rfl (nI_add _ _) (by decide) rfl (fun ls hl => ?_)
      refine lv_goto (tgt := 6) hx hb dX0_greatestSurprise_35 (by decide) ?_
      exact ih_6 (i + 1) ls (by omega) (lv_cast (k := [(0, .ref (a 0)), (1, .int (nI (i))), (2, .int (nI (sa_ v i))), (3, .int (nI (i + 1)))]) (lv_sub hl [4, 1, 2, 0] rfl) (lc_cons rfl (lc_cons (congrArg (fun z : Int32 => ((1 : Nat), Value.int z)) (show (nI (i) : Int32) = fS_ v (i + 1) from by first | exact (gS_up c_24).2 | exact (gS_eq c_24).2)) (lc_cons (congrArg (fun z : Int32 => ((2 : Nat), Value.int z)) (show (nI (sa_ v i) : Int32) = gS_ v (i + 1) from by first | exact (gS_up c_24).1 | exact (gS_eq c_24).1)) (lc_cons (congrArg (fun z : Nat => ((3 : Nat), Value.int (nI z))) (show (i + 1 : Nat) = (i + 1) from by first | rfl | omega)) rfl)))))
set_option maxHeartbeats 4000000 in
set_option maxRecDepth 100000 in
theorem c_X0_headsPercent (l : Launch) (D : va_G) (κ : Nat → ClassId) (a : Nat → Nat) (v : VS) (hv : ok_v v) (hw : 0 < wl_ v (hh_ v) (tt_ v)) : Rd l yX0_headsPercent cX0_headsPercent 5 (some .int) 3 80 (Pw D (kt_ κ) (xw κ a v) [.ref (a 0)]) (.int (nI (ch_ v true (hh_ v) (tt_ v) * 100 / (10 * wl_ v (hh_ v) (tt_ v))))) := by
  refine rd_intro (own := RX0) (by decide +kernel) rfl (Nat.le_of_ble_eq_true rfl) (fun p e s m args below meth c pc ls hx hb hr hlk d => ret_I hx hb hr hlk d) ?_
  intro p e s m args below meth c ls Qq hx hb hml hown hts hK hP hend hl
  have hl : lv_has ls 5 [(0, .ref (a 0))] := hl
  obtain ⟨hv1, hv2, hv3, hv4, hv5, hv6⟩ := id hv
  have hq1 := hh_le v
  have hq2 := hh_tt v
  have hb9 := ch_both hv (hh_ v) (tt_ v)
  have hb3 := ch_b hv true (a := hh_ v) (b := tt_ v) (by omega)
  have hb4 := ch_b hv false (a := hh_ v) (b := tt_ v) (by omega)
  refine lv_aload_n hx hb dX0_headsPercent_0 rfl (lv_at hl 0 rfl) ?_
  refine rd_V (rest := []) ⟨hx, hb, hml, hown, hts⟩ (c_X0_headsNow l D κ a v hv) g_X0_69 n_X0_headsNow ⟨Nat.le_of_ble_eq_true rfl, Nat.le_of_ble_eq_true rfl⟩ hK hP rfl rfl rfl hl.1 rfl (Nat.le_of_ble_eq_true rfl) dX0_headsPercent_1 ⟨Nat.zero_le _, Nat.zero_le _⟩ ?_
  refine lv_istore_n (lv' := [(1, .int (nI (hh_ v))), (0, .ref (a 0))]) hx hb dX0_headsPercent_4 rfl hl (by decide) rfl (fun ls hl => ?_)
  refine lv_aload_n hx hb dX0_headsPercent_5 rfl (lv_at hl 1 rfl) ?_
  refine rd_V (rest := []) ⟨hx, hb, hml, hown, hts⟩ (c_X0_tailsNow l D κ a v hv) g_X0_73 n_X0_tailsNow ⟨Nat.le_of_ble_eq_true rfl, Nat.le_of_ble_eq_true rfl⟩ hK hP rfl rfl rfl hl.1 rfl (Nat.le_of_ble_eq_true rfl) dX0_headsPercent_6 ⟨Nat.zero_le _, Nat.zero_le _⟩ ?_
  refine lv_istore_n (lv' := [(2, .int (nI (tt_ v))), (1, .int (nI (hh_ v))), (0, .ref (a 0))]) hx hb dX0_headsPercent_9 rfl hl (by decide) rfl (fun ls hl => ?_)
  refine lv_aload_n hx hb dX0_headsPercent_10 rfl (lv_at hl 2 rfl) ?_
  refine lv_iconst (v := nI (1)) hx hb dX0_headsPercent_11 (by decide) ?_
  refine nv_topi (show (nI (1) : Int32) = bI (true) from by rfl) ?_
  refine lv_iload_n hx hb dX0_headsPercent_12 rfl (lv_at hl 1 rfl) ?_
  refine lv_iload_n hx hb dX0_headsPercent_13 rfl (lv_at hl 0 rfl) ?_
  refine rd_V (rest := []) ⟨hx, hb, hml, hown, hts⟩ (c_X0_chance l D κ a v hv (true) (hh_ v) (tt_ v) (by omega) (by omega)) g_X0_120 n_X0_chance ⟨Nat.le_of_ble_eq_true rfl, Nat.le_of_ble_eq_true rfl⟩ hK hP rfl rfl rfl hl.1 rfl (Nat.le_of_ble_eq_true rfl) dX0_headsPercent_14 ⟨Nat.zero_le _, Nat.zero_le _⟩ ?_
  refine lv_lstore_n (lv' := [(3, .long (lN (ch_ v true (hh_ v) (tt_ v)))), (2, .int (nI (tt_ v))), (1, .int (nI (hh_ v))), (0, .ref (a 0))]) hx hb dX0_headsPercent_17 rfl hl (by decide) rfl (fun ls hl => ?_)
  refine lv_lload_n hx hb dX0_headsPercent_18 rfl (lv_at hl 0 rfl) ?_
  refine lv_lload_n hx hb dX0_headsPercent_19 rfl (lv_at hl 0 rfl) ?_
  refine lv_aload_n hx hb dX0_headsPercent_20 rfl (lv_at hl 3 rfl) ?_
  refine lv_iconst (v := nI (0)) hx hb dX0_headsPercent_21 (by decide) ?_
  refine nv_topi (show (nI (0) : Int32) = bI (false) from by rfl) ?_
  refine lv_iload_n hx hb dX0_headsPercent_22 rfl (lv_at hl 2 rfl) ?_
  refine lv_iload_n hx hb dX0_headsPercent_23 rfl (lv_at hl 1 rfl) ?_
  refine rd_V (rest := [.long (lN (ch_ v true (hh_ v) (tt_ v))), .long (lN (ch_ v true (hh_ v) (tt_ v)))]) ⟨hx, hb, hml, hown, hts⟩ (c_X0_chance l D κ a v hv (false) (hh_ v) (tt_ v) (by omega) (by omega)) g_X0_120 n_X0_chance ⟨Nat.le_of_ble_eq_true rfl, Nat.le_of_ble_eq_true rfl⟩ hK hP rfl rfl rfl hl.1 rfl (Nat.le_of_ble_eq_true rfl) dX0_headsPercent_24 ⟨Nat.zero_le _, Nat.zero_le _⟩ ?_
  refine nv_ladd hx hb dX0_headsPercent_27 rfl ?_
  refine rd_S (rest := []) ⟨hx, hb, hml, hown, hts⟩ (c_X0_percent l (ch_ v true (hh_ v) (tt_ v)) ((ch_ v true (hh_ v) (tt_ v)) + (ch_ v false (hh_ v) (tt_ v))) (by omega) (by omega) (by omega)) g_X0_104 n_X0_percent ⟨Nat.le_of_ble_eq_true rfl, Nat.le_of_ble_eq_true rfl⟩ rfl hl.1 rfl (Nat.le_of_ble_eq_true rfl) dX0_headsPercent_28 ⟨Nat.zero_le _, Nat.zero_le _⟩ ?_
  refine nv_topi (congrArg nI (show ((ch_ v true (hh_ v) (tt_ v)) * 100 / ((ch_ v true (hh_ v) (tt_ v)) + (ch_ v false (hh_ v) (tt_ v))) : Nat) = ch_ v true (hh_ v) (tt_ v) * 100 / (10 * wl_ v (hh_ v) (tt_ v)) from by rw [hb9])) ?_
  exact hend _ _ dX0_headsPercent_31
set_option maxHeartbeats 4000000 in
set_option maxRecDepth 100000 in
theorem c_X0_wouldSurprise (l : Launch) (D : va_G) (κ : Nat → ClassId) (a : Nat → Nat) (v : VS) (hv : ok_v v) (h_ : Bool) (hp : 0 < ch_ v h_ (hh_ v) (tt_ v)) : Rd l yX0_wouldSurprise cX0_wouldSurprise 2 (some .int) 4 108 (Pw D (kt_ κ) (xw κ a v) [.ref (a 0), .int (bI (h_))]) (.int (nI (su_ v h_ (hh_ v) (tt_ v)))) := by
  refine rd_intro (own := RX0) (by decide +kernel) rfl (Nat.le_of_ble_eq_true rfl) (fun p e s m args below meth c pc ls hx hb hr hlk d => ret_I hx hb hr hlk d) ?_
  intro p e s m args below meth c ls Qq hx hb hml hown hts hK hP hend hl
  have hl : lv_has ls 2 [(0, .ref (a 0)), (1, .int (bI (h_)))] := hl
  obtain ⟨hv1, hv2, hv3, hv4, hv5, hv6⟩ := id hv
  have hq1 := hh_le v
  have hq2 := hh_tt v
  refine lv_aload_n hx hb dX0_wouldSurprise_0 rfl (lv_at hl 0 rfl) ?_
  refine lv_iload_n hx hb dX0_wouldSurprise_1 rfl (lv_at hl 1 rfl) ?_
  refine rd_VN (rest := []) ⟨hx, hb, hml, hown, hts⟩ (c_X0_needPossible l D κ a v hv (h_) (hp)) g_X0_65 n_X0_needPossible ⟨Nat.le_of_ble_eq_true rfl, Nat.le_of_ble_eq_true rfl⟩ hK hP rfl rfl rfl hl.1 rfl (Nat.le_of_ble_eq_true rfl) dX0_wouldSurprise_2 ⟨Nat.zero_le _, Nat.zero_le _⟩ ?_
  refine lv_aload_n hx hb dX0_wouldSurprise_5 rfl (lv_at hl 0 rfl) ?_
  refine lv_iload_n hx hb dX0_wouldSurprise_6 rfl (lv_at hl 1 rfl) ?_
  refine lv_aload_n hx hb dX0_wouldSurprise_7 rfl (lv_at hl 0 rfl) ?_
  refine rd_V (rest := [.int (bI (h_)), .ref (a 0)]) ⟨hx, hb, hml, hown, hts⟩ (c_X0_headsNow l D κ a v hv) g_X0_69 n_X0_headsNow ⟨Nat.le_of_ble_eq_true rfl, Nat.le_of_ble_eq_true rfl⟩ hK hP rfl rfl rfl hl.1 rfl (Nat.le_of_ble_eq_true rfl) dX0_wouldSurprise_8 ⟨Nat.zero_le _, Nat.zero_le _⟩ ?_
  refine lv_aload_n hx hb dX0_wouldSurprise_11 rfl (lv_at hl 0 rfl) ?_
  refine rd_V (rest := [.int (nI (hh_ v)), .int (bI (h_)), .ref (a 0)]) ⟨hx, hb, hml, hown, hts⟩ (c_X0_tailsNow l D κ a v hv) g_X0_73 n_X0_tailsNow ⟨Nat.le_of_ble_eq_true rfl, Nat.le_of_ble_eq_true rfl⟩ hK hP rfl rfl rfl hl.1 rfl (Nat.le_of_ble_eq_true rfl) dX0_wouldSurprise_12 ⟨Nat.zero_le _, Nat.zero_le _⟩ ?_
  refine rd_V (rest := []) ⟨hx, hb, hml, hown, hts⟩ (c_X0_surpriseBehind l D κ a v hv (h_) (hh_ v) (tt_ v) (by omega)) g_X0_76 n_X0_surpriseBehind ⟨Nat.le_of_ble_eq_true rfl, Nat.le_of_ble_eq_true rfl⟩ hK hP rfl rfl rfl hl.1 rfl (Nat.le_of_ble_eq_true rfl) dX0_wouldSurprise_15 ⟨Nat.zero_le _, Nat.zero_le _⟩ ?_
  exact hend _ _ dX0_wouldSurprise_18
set_option maxHeartbeats 4000000 in
set_option maxRecDepth 100000 in
theorem c_X0_leaderBehind (l : Launch) (D : va_G) (κ : Nat → ClassId) (a : Nat → Nat) (v : VS) (hv : ok_v v) (h_ : Bool) (hp : 0 < ch_ v h_ (hh_ v) (tt_ v)) : Rd l yX0_leaderBehind cX0_leaderBehind 2 (some .int) 4 101 (Pw D (kt_ κ) (xw κ a v) [.ref (a 0), .int (bI (h_))]) (.int (nI (lb_ v h_))) := by
  refine rd_intro (own := RX0) (by decide +kernel) rfl (Nat.le_of_ble_eq_true rfl) (fun p e s m args below meth c pc ls hx hb hr hlk d => ret_I hx hb hr hlk d) ?_
  intro p e s m args below meth c ls Qq hx hb hml hown hts hK hP hend hl
  have hl : lv_has ls 2 [(0, .ref (a 0)), (1, .int (bI (h_)))] := hl
  obtain ⟨hv1, hv2, hv3, hv4, hv5, hv6⟩ := id hv
  have hq1 := hh_le v
  have hq2 := hh_tt v
  refine lv_aload_n hx hb dX0_leaderBehind_0 rfl (lv_at hl 0 rfl) ?_
  refine lv_iload_n hx hb dX0_leaderBehind_1 rfl (lv_at hl 1 rfl) ?_
  refine rd_VN (rest := []) ⟨hx, hb, hml, hown, hts⟩ (c_X0_needPossible l D κ a v hv (h_) (hp)) g_X0_65 n_X0_needPossible ⟨Nat.le_of_ble_eq_true rfl, Nat.le_of_ble_eq_true rfl⟩ hK hP rfl rfl rfl hl.1 rfl (Nat.le_of_ble_eq_true rfl) dX0_leaderBehind_2 ⟨Nat.zero_le _, Nat.zero_le _⟩ ?_
  refine lv_iload_n hx hb dX0_leaderBehind_5 rfl (lv_at hl 1 rfl) ?_
  refine bv_if_eq (tgt := 26) hx hb dX0_leaderBehind_6 (by decide) (fun c_6 => ?_) (fun c_6 => ?_)
  · refine lv_aload_n hx hb dX0_leaderBehind_26 rfl (lv_at hl 0 rfl) ?_
    refine lv_aload_n hx hb dX0_leaderBehind_27 rfl (lv_at hl 0 rfl) ?_
    refine rd_V (rest := [.ref (a 0)]) ⟨hx, hb, hml, hown, hts⟩ (c_X0_headsNow l D κ a v hv) g_X0_69 n_X0_headsNow ⟨Nat.le_of_ble_eq_true rfl, Nat.le_of_ble_eq_true rfl⟩ hK hP rfl rfl rfl hl.1 rfl (Nat.le_of_ble_eq_true rfl) dX0_leaderBehind_28 ⟨Nat.zero_le _, Nat.zero_le _⟩ ?_
    refine lv_aload_n hx hb dX0_leaderBehind_31 rfl (lv_at hl 0 rfl) ?_
    refine rd_V (rest := [.int (nI (hh_ v)), .ref (a 0)]) ⟨hx, hb, hml, hown, hts⟩ (c_X0_tailsNow l D κ a v hv) g_X0_73 n_X0_tailsNow ⟨Nat.le_of_ble_eq_true rfl, Nat.le_of_ble_eq_true rfl⟩ hK hP rfl rfl rfl hl.1 rfl (Nat.le_of_ble_eq_true rfl) dX0_leaderBehind_32 ⟨Nat.zero_le _, Nat.zero_le _⟩ ?_
    refine lv_iconst (v := nI (1)) hx hb dX0_leaderBehind_35 (by decide) ?_
    refine nv_iadd hx hb dX0_leaderBehind_36 rfl ?_
    refine rd_V (rest := []) ⟨hx, hb, hml, hown, hts⟩ (c_X0_leaderAt l D κ a v hv (hh_ v) ((tt_ v) + 1) (by omega)) g_X0_108 n_X0_leaderAt ⟨Nat.le_of_ble_eq_true rfl, Nat.le_of_ble_eq_true rfl⟩ hK hP rfl rfl rfl hl.1 rfl (Nat.le_of_ble_eq_true rfl) dX0_leaderBehind_37 ⟨Nat.zero_le _, Nat.zero_le _⟩ ?_
    refine nv_topi (show (la_ v (hh_ v) ((tt_ v) + 1) : Int32) = nI (lb_ v h_) from by first | exact lb_t hp c_6 | exact lb_f hp c_6) ?_
    exact hend _ _ dX0_leaderBehind_40
  · refine lv_aload_n hx hb dX0_leaderBehind_9 rfl (lv_at hl 0 rfl) ?_
    refine lv_aload_n hx hb dX0_leaderBehind_10 rfl (lv_at hl 0 rfl) ?_
    refine rd_V (rest := [.ref (a 0)]) ⟨hx, hb, hml, hown, hts⟩ (c_X0_headsNow l D κ a v hv) g_X0_69 n_X0_headsNow ⟨Nat.le_of_ble_eq_true rfl, Nat.le_of_ble_eq_true rfl⟩ hK hP rfl rfl rfl hl.1 rfl (Nat.le_of_ble_eq_true rfl) dX0_leaderBehind_11 ⟨Nat.zero_le _, Nat.zero_le _⟩ ?_
    refine lv_iconst (v := nI (1)) hx hb dX0_leaderBehind_14 (by decide) ?_
    refine nv_iadd hx hb dX0_leaderBehind_15 rfl ?_
    refine lv_aload_n hx hb dX0_leaderBehind_16 rfl (lv_at hl 0 rfl) ?_
    refine rd_V (rest := [.int (nI ((hh_ v) + 1)), .ref (a 0)]) ⟨hx, hb, hml, hown, hts⟩ (c_X0_tailsNow l D κ a v hv) g_X0_73 n_X0_tailsNow ⟨Nat.le_of_ble_eq_true rfl, Nat.le_of_ble_eq_true rfl⟩ hK hP rfl rfl rfl hl.1 rfl (Nat.le_of_ble_eq_true rfl) dX0_leaderBehind_17 ⟨Nat.zero_le _, Nat.zero_le _⟩ ?_
    refine rd_V (rest := []) ⟨hx, hb, hml, hown, hts⟩ (c_X0_leaderAt l D κ a v hv ((hh_ v) + 1) (tt_ v) (by omega)) g_X0_108 n_X0_leaderAt ⟨Nat.le_of_ble_eq_true rfl, Nat.le_of_ble_eq_true rfl⟩ hK hP rfl rfl rfl hl.1 rfl (Nat.le_of_ble_eq_true rfl) dX0_leaderBehind_20 ⟨Nat.zero_le _, Nat.zero_le _⟩ ?_
    refine lv_goto (tgt := 40) hx hb dX0_leaderBehind_23 (by decide) ?_
    refine nv_topi (show (la_ v ((hh_ v) + 1) (tt_ v) : Int32) = nI (lb_ v h_) from by first | exact lb_t hp c_6 | exact lb_f hp c_6) ?_
    exact hend _ _ dX0_leaderBehind_40
set_option maxHeartbeats 4000000 in
set_option maxRecDepth 100000 in
theorem c_X0_tossesToLead (l : Launch) (D : va_G) (κ : Nat → ClassId) (a : Nat → Nat) (v : VS) (hv : ok_v v) (c_ : Nat) (hc : c_ < vs_c v) : Rd l yX0_tossesToLead cX0_tossesToLead 5 (some .int) 3 81 (Pw D (kt_ κ) (xw κ a v) [.ref (a 0), .int (nI (c_))]) (.int (tl_ v c_)) := by
  refine rd_intro (own := RX0) (by decide +kernel) rfl (Nat.le_of_ble_eq_true rfl) (fun p e s m args below meth c pc ls hx hb hr hlk d => ret_I hx hb hr hlk d) ?_
  intro p e s m args below meth c ls Qq hx hb hml hown hts hK hP hend hl
  have hl : lv_has ls 5 [(0, .ref (a 0)), (1, .int (nI (c_)))] := hl
  obtain ⟨hv1, hv2, hv3, hv4, hv5, hv6⟩ := id hv
  have hq1 := hh_le v
  have hq2 := hh_tt v
  refine lv_aload_n hx hb dX0_tossesToLead_0 rfl (lv_at hl 0 rfl) ?_
  refine lv_iload_n hx hb dX0_tossesToLead_1 rfl (lv_at hl 1 rfl) ?_
  refine rd_VN (rest := []) ⟨hx, hb, hml, hown, hts⟩ (c_X0_needCoin l D κ a v hv (c_) (by omega)) g_X0_58 n_X0_needCoin ⟨Nat.le_of_ble_eq_true rfl, Nat.le_of_ble_eq_true rfl⟩ hK hP rfl rfl rfl hl.1 rfl (Nat.le_of_ble_eq_true rfl) dX0_tossesToLead_2 ⟨Nat.zero_le _, Nat.zero_le _⟩ ?_
  refine lv_aload_n hx hb dX0_tossesToLead_5 rfl (lv_at hl 0 rfl) ?_
  refine rd_V (rest := []) ⟨hx, hb, hml, hown, hts⟩ (c_X0_headsNow l D κ a v hv) g_X0_69 n_X0_headsNow ⟨Nat.le_of_ble_eq_true rfl, Nat.le_of_ble_eq_true rfl⟩ hK hP rfl rfl rfl hl.1 rfl (Nat.le_of_ble_eq_true rfl) dX0_tossesToLead_6 ⟨Nat.zero_le _, Nat.zero_le _⟩ ?_
  refine lv_istore_n (lv' := [(2, .int (nI (hh_ v))), (0, .ref (a 0)), (1, .int (nI (c_)))]) hx hb dX0_tossesToLead_9 rfl hl (by decide) rfl (fun ls hl => ?_)
  refine lv_aload_n hx hb dX0_tossesToLead_10 rfl (lv_at hl 1 rfl) ?_
  refine rd_V (rest := []) ⟨hx, hb, hml, hown, hts⟩ (c_X0_tailsNow l D κ a v hv) g_X0_73 n_X0_tailsNow ⟨Nat.le_of_ble_eq_true rfl, Nat.le_of_ble_eq_true rfl⟩ hK hP rfl rfl rfl hl.1 rfl (Nat.le_of_ble_eq_true rfl) dX0_tossesToLead_11 ⟨Nat.zero_le _, Nat.zero_le _⟩ ?_
  refine lv_istore_n (lv' := [(3, .int (nI (tt_ v))), (2, .int (nI (hh_ v))), (0, .ref (a 0)), (1, .int (nI (c_)))]) hx hb dX0_tossesToLead_14 rfl hl (by decide) rfl (fun ls hl => ?_)
  refine lv_iconst (v := nI (0)) hx hb dX0_tossesToLead_15 (by decide) ?_
  refine lv_istore (lv' := [(4, .int (nI (0))), (3, .int (nI (tt_ v))), (2, .int (nI (hh_ v))), (0, .ref (a 0)), (1, .int (nI (c_)))]) hx hb dX0_tossesToLead_16 hl (by decide) rfl (fun ls hl => ?_)
  suffices hloop_18 : ∀ (n_18 i : Nat) (ls : Array Slot), i + n_18 = 13 - vs_t v → lv_has ls 5 [(0, .ref (a 0)), (1, .int (nI (c_))), (2, .int (nI (hh_ v))), (3, .int (nI (tt_ v))), (4, .int (nI (i)))] → (tl_ v c_ = sr_ (tp_ v c_) (13 - vs_t v - i) i) → W p l e (rm_ 3 81) s m args below meth c s.heap [] 0 0 Qq (F0 m 18 ls []) from hloop_18 (13 - vs_t v - 0) (0) ls (by omega) (lv_sub hl [3, 4, 2, 1, 0] rfl) (rfl)
  intro n_18
  induction n_18 with
  | zero =>
    intro i ls hin_18 hl hj
    have hi_18 : i = 13 - vs_t v := by omega
    refine lv_iload hx hb dX0_tossesToLead_18 (lv_at hl 4 rfl) ?_
    refine lv_bipush (v := nI (12)) hx hb dX0_tossesToLead_20 (by decide) ?_
    refine lv_aload_n hx hb dX0_tossesToLead_22 rfl (lv_at hl 0 rfl) ?_
    refine va_get (D := D) (ci := 0) (v := .int (nI (vs_t v))) (C := RX0) (T := TX0) (N := 7) hx hb hts i_X0 hown hK hP 0 rfl rfl 6 (by decide) (hts _ q_f_X0_32) (fun _ h9 => h9) rfl dX0_tossesToLead_23 ?_
    refine nv_isub (r := 12 - (vs_t v)) hx hb dX0_tossesToLead_26 (by omega) ?_
    refine nv_icmp_gt (tgt := 65) hx hb dX0_tossesToLead_27 (by decide) (by omega) (by omega) (fun c_27 => ?_) (fun z => absurd z (by omega))
    refine lv_iconst (v := (-1)) hx hb dX0_tossesToLead_65 (by decide) ?_
    refine nv_topi (show (-1 : Int32) = tl_ v c_ from by first | exact ttl_end hj hi_18 | exact ttl_hit1 hv hc hj (by omega) c_40 | exact ttl_hit2 hv hc hj (by omega) c_53) ?_
    exact hend _ _ dX0_tossesToLead_66
  | succ n_18 ih_18 =>
    intro i ls hin_18 hl hj
    refine lv_iload hx hb dX0_tossesToLead_18 (lv_at hl 4 rfl) ?_
    refine lv_bipush (v := nI (12)) hx hb dX0_tossesToLead_20 (by decide) ?_
    refine lv_aload_n hx hb dX0_tossesToLead_22 rfl (lv_at hl 0 rfl) ?_
    refine va_get (D := D) (ci := 0) (v := .int (nI (vs_t v))) (C := RX0) (T := TX0) (N := 7) hx hb hts i_X0 hown hK hP 0 rfl rfl 6 (by decide) (hts _ q_f_X0_32) (fun _ h9 => h9) rfl dX0_tossesToLead_23 ?_
    refine nv_isub (r := 12 - (vs_t v)) hx hb dX0_tossesToLead_26 (by omega) ?_
    refine nv_icmp_gt (tgt := 65) hx hb dX0_tossesToLead_27 (by decide) (by omega) (by omega) (fun z => absurd z (by omega)) (fun c_27 => ?_)
    refine lv_aload_n hx hb dX0_tossesToLead_30 rfl (lv_at hl 0 rfl) ?_
    refine lv_iload_n hx hb dX0_tossesToLead_31 rfl (lv_at hl 2 rfl) ?_
    refine lv_iload hx hb dX0_tossesToLead_32 (lv_at hl 4 rfl) ?_
    refine nv_iadd hx hb dX0_tossesToLead_34 rfl ?_
    refine lv_iload_n hx hb dX0_tossesToLead_35 rfl (lv_at hl 3 rfl) ?_
    refine rd_V (rest := []) ⟨hx, hb, hml, hown, hts⟩ (c_X0_leaderAt l D κ a v hv ((hh_ v) + i) (tt_ v) (by omega)) g_X0_108 n_X0_leaderAt ⟨Nat.le_of_ble_eq_true rfl, Nat.le_of_ble_eq_true rfl⟩ hK hP rfl rfl rfl hl.1 rfl (Nat.le_of_ble_eq_true rfl) dX0_tossesToLead_36 ⟨Nat.zero_le _, Nat.zero_le _⟩ ?_
    refine lv_iload_n hx hb dX0_tossesToLead_39 rfl (lv_at hl 1 rfl) ?_
    refine lv_icmp_eq (tgt := 56) hx hb dX0_tossesToLead_40 (by decide) (fun c_40 => ?_) (fun c_40 => ?_)
    · refine lv_iload hx hb dX0_tossesToLead_56 (lv_at hl 4 rfl) ?_
      refine nv_topi (show (nI (i) : Int32) = tl_ v c_ from by first | exact ttl_end hj hi_18 | exact ttl_hit1 hv hc hj (by omega) c_40 | exact ttl_hit2 hv hc hj (by omega) c_53) ?_
      exact hend _ _ dX0_tossesToLead_58
    · refine lv_aload_n hx hb dX0_tossesToLead_43 rfl (lv_at hl 0 rfl) ?_
      refine lv_iload_n hx hb dX0_tossesToLead_44 rfl (lv_at hl 2 rfl) ?_
      refine lv_iload_n hx hb dX0_tossesToLead_45 rfl (lv_at hl 3 rfl) ?_
      refine lv_iload hx hb dX0_tossesToLead_46 (lv_at hl 4 rfl) ?_
      refine nv_iadd hx hb dX0_tossesToLead_48 rfl ?_
      refine rd_V (rest := []) ⟨hx, hb, hml, hown, hts⟩ (c_X0_leaderAt l D κ a v hv (hh_ v) ((tt_ v) + i) (by omega)) g_X0_108 n_X0_leaderAt ⟨Nat.le_of_ble_eq_true rfl, Nat.le_of_ble_eq_true rfl⟩ hK hP rfl rfl rfl hl.1 rfl (Nat.le_of_ble_eq_true rfl) dX0_tossesToLead_49 ⟨Nat.zero_le _, Nat.zero_le _⟩ ?_
      refine lv_iload_n hx hb dX0_tossesToLead_52 rfl (lv_at hl 1 rfl) ?_
      refine lv_icmp_ne (tgt := 59) hx hb dX0_tossesToLead_53 (by decide) (fun c_53 => ?_) (fun c_53 => ?_)
      · refine lv_iinc (v := nI (i + 1)) (lv' := [(4, .int (nI (i + 1))), (0, .ref (a 0)), (1, .int (nI (c_))), (2, .int (nI (hh_ v))), (3, .int (nI (tt_ v)))]) hx hb dX0_tossesToLead_59 hl (k := 4) rfl (nI_add _ _) (by decide) rfl (fun ls hl => ?_)
        refine lv_goto (tgt := 18) hx hb dX0_tossesToLead_62 (by decide) ?_
        exact ih_18 (i + 1) ls (by omega) (lv_cast (k := [(0, .ref (a 0)), (1, .int (nI (c_))), (2, .int (nI (hh_ v))), (3, .int (nI (tt_ v))), (4, .int (nI (i + 1)))]) (lv_sub hl [1, 2, 3, 4, 0] rfl) (lc_cons rfl (lc_cons rfl (lc_cons rfl (lc_cons rfl (lc_cons (congrArg (fun z : Nat => ((4 : Nat), Value.int (nI z))) (show (i + 1 : Nat) = (i + 1) from by first | rfl | omega)) rfl)))))) (ttl_miss hv hc hj (by omega) c_40 c_53)
      · refine lv_iload hx hb dX0_tossesToLead_56 (lv_at hl 4 rfl) ?_
        refine nv_topi (show (nI (i) : Int32) = tl_ v c_ from by first | exact ttl_end hj hi_18 | exact ttl_hit1 hv hc hj (by omega) c_40 | exact ttl_hit2 hv hc hj (by omega) c_53) ?_
        exact hend _ _ dX0_tossesToLead_58
set_option maxHeartbeats 4000000 in
set_option maxRecDepth 100000 in
theorem c_X0_decisiveTosses (l : Launch) (D : va_G) (κ : Nat → ClassId) (a : Nat → Nat) (v : VS) (hv : ok_v v) (hw : 0 < vs_t v → 0 < wl_ v (hh_ v) (tt_ v)) : Rd l yX0_decisiveTosses cX0_decisiveTosses 7 (some .int) 3 81 (Pw D (kt_ κ) (xw κ a v) [.ref (a 0)]) (.int (nI (dc_ v))) := by
  refine rd_intro (own := RX0) (by decide +kernel) rfl (Nat.le_of_ble_eq_true rfl) (fun p e s m args below meth c pc ls hx hb hr hlk d => ret_I hx hb hr hlk d) ?_
  intro p e s m args below meth c ls Qq hx hb hml hown hts hK hP hend hl
  have hl : lv_has ls 7 [(0, .ref (a 0))] := hl
  obtain ⟨hv1, hv2, hv3, hv4, hv5, hv6⟩ := id hv
  have hq1 := hh_le v
  have hq2 := hh_tt v
  refine lv_aload_n hx hb dX0_decisiveTosses_0 rfl (lv_at hl 0 rfl) ?_
  refine rd_V (rest := []) ⟨hx, hb, hml, hown, hts⟩ (c_X0_headsNow l D κ a v hv) g_X0_69 n_X0_headsNow ⟨Nat.le_of_ble_eq_true rfl, Nat.le_of_ble_eq_true rfl⟩ hK hP rfl rfl rfl hl.1 rfl (Nat.le_of_ble_eq_true rfl) dX0_decisiveTosses_1 ⟨Nat.zero_le _, Nat.zero_le _⟩ ?_
  refine lv_istore_n (lv' := [(1, .int (nI (hh_ v))), (0, .ref (a 0))]) hx hb dX0_decisiveTosses_4 rfl hl (by decide) rfl (fun ls hl => ?_)
  refine lv_aload_n hx hb dX0_decisiveTosses_5 rfl (lv_at hl 1 rfl) ?_
  refine rd_V (rest := []) ⟨hx, hb, hml, hown, hts⟩ (c_X0_tailsNow l D κ a v hv) g_X0_73 n_X0_tailsNow ⟨Nat.le_of_ble_eq_true rfl, Nat.le_of_ble_eq_true rfl⟩ hK hP rfl rfl rfl hl.1 rfl (Nat.le_of_ble_eq_true rfl) dX0_decisiveTosses_6 ⟨Nat.zero_le _, Nat.zero_le _⟩ ?_
  refine lv_istore_n (lv' := [(2, .int (nI (tt_ v))), (1, .int (nI (hh_ v))), (0, .ref (a 0))]) hx hb dX0_decisiveTosses_9 rfl hl (by decide) rfl (fun ls hl => ?_)
  refine lv_aload_n hx hb dX0_decisiveTosses_10 rfl (lv_at hl 2 rfl) ?_
  refine lv_iload_n hx hb dX0_decisiveTosses_11 rfl (lv_at hl 1 rfl) ?_
  refine lv_iload_n hx hb dX0_decisiveTosses_12 rfl (lv_at hl 0 rfl) ?_
  refine rd_V (rest := []) ⟨hx, hb, hml, hown, hts⟩ (c_X0_leaderAt l D κ a v hv (hh_ v) (tt_ v) (by omega)) g_X0_108 n_X0_leaderAt ⟨Nat.le_of_ble_eq_true rfl, Nat.le_of_ble_eq_true rfl⟩ hK hP rfl rfl rfl hl.1 rfl (Nat.le_of_ble_eq_true rfl) dX0_decisiveTosses_13 ⟨Nat.zero_le _, Nat.zero_le _⟩ ?_
  refine lv_istore_n (lv' := [(3, .int (la_ v (hh_ v) (tt_ v))), (2, .int (nI (tt_ v))), (1, .int (nI (hh_ v))), (0, .ref (a 0))]) hx hb dX0_decisiveTosses_16 rfl hl (by decide) rfl (fun ls hl => ?_)
  refine lv_iconst (v := nI (0)) hx hb dX0_decisiveTosses_17 (by decide) ?_
  refine lv_istore (lv' := [(4, .int (nI (0))), (3, .int (la_ v (hh_ v) (tt_ v))), (2, .int (nI (tt_ v))), (1, .int (nI (hh_ v))), (0, .ref (a 0))]) hx hb dX0_decisiveTosses_18 hl (by decide) rfl (fun ls hl => ?_)
  refine lv_iconst (v := nI (0)) hx hb dX0_decisiveTosses_20 (by decide) ?_
  refine lv_istore (lv' := [(5, .int (nI (0))), (4, .int (nI (0))), (3, .int (la_ v (hh_ v) (tt_ v))), (2, .int (nI (tt_ v))), (1, .int (nI (hh_ v))), (0, .ref (a 0))]) hx hb dX0_decisiveTosses_21 hl (by decide) rfl (fun ls hl => ?_)
  suffices hloop_23 : ∀ (n_23 i : Nat) (ls : Array Slot), i + n_23 = vs_t v → lv_has ls 7 [(0, .ref (a 0)), (1, .int (nI (hh_ v))), (2, .int (nI (tt_ v))), (3, .int (la_ v (hh_ v) (tt_ v))), (4, .int (nI (sm_ (dcf_ v) i))), (5, .int (nI (i)))] → W p l e (rm_ 3 81) s m args below meth c s.heap [] 0 0 Qq (F0 m 23 ls []) from hloop_23 (vs_t v - 0) (0) ls (by omega) (lv_cast (k := [(0, .ref (a 0)), (1, .int (nI (hh_ v))), (2, .int (nI (tt_ v))), (3, .int (la_ v (hh_ v) (tt_ v))), (4, .int (nI (0))), (5, .int (nI (0)))]) (lv_sub hl [5, 4, 3, 2, 1, 0] rfl) (lc_cons rfl (lc_cons rfl (lc_cons rfl (lc_cons rfl (lc_cons (congrArg (fun z : Nat => ((4 : Nat), Value.int (nI z))) (show (0 : Nat) = sm_ (dcf_ v) 0 from by first | rfl | omega)) (lc_cons rfl rfl)))))))
  intro n_23
  induction n_23 with
  | zero =>
    intro i ls hin_23 hl
    have hi_23 : i = vs_t v := by omega
    refine lv_iload hx hb dX0_decisiveTosses_23 (lv_at hl 5 rfl) ?_
    refine lv_aload_n hx hb dX0_decisiveTosses_25 rfl (lv_at hl 0 rfl) ?_
    refine va_get (D := D) (ci := 0) (v := .int (nI (vs_t v))) (C := RX0) (T := TX0) (N := 7) hx hb hts i_X0 hown hK hP 0 rfl rfl 6 (by decide) (hts _ q_f_X0_32) (fun _ h9 => h9) rfl dX0_decisiveTosses_26 ?_
    refine nv_icmp_ge (tgt := 78) hx hb dX0_decisiveTosses_29 (by decide) (by omega) (by omega) (fun c_29 => ?_) (fun z => absurd z (by omega))
    refine lv_iload hx hb dX0_decisiveTosses_78 (lv_at hl 4 rfl) ?_
    refine nv_topi (congrArg nI (show (sm_ (dcf_ v) i : Nat) = dc_ v from by rw [hi_23]; rfl)) ?_
    exact hend _ _ dX0_decisiveTosses_80
  | succ n_23 ih_23 =>
    intro i ls hin_23 hl
    refine lv_iload hx hb dX0_decisiveTosses_23 (lv_at hl 5 rfl) ?_
    refine lv_aload_n hx hb dX0_decisiveTosses_25 rfl (lv_at hl 0 rfl) ?_
    refine va_get (D := D) (ci := 0) (v := .int (nI (vs_t v))) (C := RX0) (T := TX0) (N := 7) hx hb hts i_X0 hown hK hP 0 rfl rfl 6 (by decide) (hts _ q_f_X0_32) (fun _ h9 => h9) rfl dX0_decisiveTosses_26 ?_
    refine nv_icmp_ge (tgt := 78) hx hb dX0_decisiveTosses_29 (by decide) (by omega) (by omega) (fun z => absurd z (by omega)) (fun c_29 => ?_)
    refine lv_aload_n hx hb dX0_decisiveTosses_32 rfl (lv_at hl 0 rfl) ?_
    refine va_get (D := D) (ci := 0) (v := .ref (a 4)) (C := RX0) (T := TX0) (N := 7) hx hb hts i_X0 hown hK hP 0 rfl rfl 3 (by decide) (hts _ q_f_X0_21) (fun _ h9 => h9) rfl dX0_decisiveTosses_33 ?_
    refine lv_iload hx hb dX0_decisiveTosses_36 (lv_at hl 5 rfl) ?_
    refine nv_zald hx hb hK hP 4 2 (n := 12) (v := bI (vs_th v i)) rfl rfl (by omega) (by decide) rfl dX0_decisiveTosses_38 ?_
    refine bv_if_eq (tgt := 53) hx hb dX0_decisiveTosses_39 (by decide) (fun c_39 => ?_) (fun c_39 => ?_)
    · refine lv_aload_n hx hb dX0_decisiveTosses_53 rfl (lv_at hl 0 rfl) ?_
      refine lv_iload_n hx hb dX0_decisiveTosses_54 rfl (lv_at hl 1 rfl) ?_
      refine lv_iload_n hx hb dX0_decisiveTosses_55 rfl (lv_at hl 2 rfl) ?_
      refine lv_iconst (v := nI (1)) hx hb dX0_decisiveTosses_56 (by decide) ?_
      refine nv_isub (r := (tt_ v) - 1) hx hb dX0_decisiveTosses_57 (by have := tt_pos (v := v) (i := i) (by omega) c_39; omega) ?_
      refine rd_V (rest := []) ⟨hx, hb, hml, hown, hts⟩ (c_X0_leaderAt l D κ a v hv (hh_ v) ((tt_ v) - 1) (by omega)) g_X0_108 n_X0_leaderAt ⟨Nat.le_of_ble_eq_true rfl, Nat.le_of_ble_eq_true rfl⟩ hK hP rfl rfl rfl hl.1 rfl (Nat.le_of_ble_eq_true rfl) dX0_decisiveTosses_58 ⟨Nat.zero_le _, Nat.zero_le _⟩ ?_
      refine nv_topi (show (la_ v (hh_ v) ((tt_ v) - 1) : Int32) = nI (lw_ v i) from by exact lw_la_f (hw (by omega)) c_39) ?_
      refine lv_istore (lv' := [(6, .int (nI (lw_ v i))), (0, .ref (a 0)), (1, .int (nI (hh_ v))), (2, .int (nI (tt_ v))), (3, .int (la_ v (hh_ v) (tt_ v))), (4, .int (nI (sm_ (dcf_ v) i))), (5, .int (nI (i)))]) hx hb dX0_decisiveTosses_61 hl (by decide) rfl (fun ls hl => ?_)
      refine lv_iload hx hb dX0_decisiveTosses_63 (lv_at hl 0 rfl) ?_
      refine lv_iload_n hx hb dX0_decisiveTosses_65 rfl (lv_at hl 4 rfl) ?_
      refine lv_icmp_eq (tgt := 72) hx hb dX0_decisiveTosses_66 (by decide) (fun c_66 => ?_) (fun c_66 => ?_)
      · refine lv_iinc (v := nI (i + 1)) (lv' := [(5, .int (nI (i + 1))), (6, .int (nI (lw_ v i))), (0, .ref (a 0)), (1, .int (nI (hh_ v))), (2, .int (nI (tt_ v))), (3, .int (la_ v (hh_ v) (tt_ v))), (4, .int (nI (sm_ (dcf_ v) i)))]) hx hb dX0_decisiveTosses_72 hl (k := 6) rfl (nI_add _ _) (by decide) rfl (fun ls hl => ?_)
        refine lv_goto (tgt := 23) hx hb dX0_decisiveTosses_75 (by decide) ?_
        exact ih_23 (i + 1) ls (by omega) (lv_cast (k := [(0, .ref (a 0)), (1, .int (nI (hh_ v))), (2, .int (nI (tt_ v))), (3, .int (la_ v (hh_ v) (tt_ v))), (4, .int (nI (sm_ (dcf_ v) i))), (5, .int (nI (i + 1)))]) (lv_sub hl [2, 3, 4, 5, 6, 0] rfl) (lc_cons rfl (lc_cons rfl (lc_cons rfl (lc_cons rfl (lc_cons (congrArg (fun z : Nat => ((4 : Nat), Value.int (nI z))) (show (sm_ (dcf_ v) i : Nat) = sm_ (dcf_ v) (i + 1) from by first | exact dc_e hv (hw (by omega)) c_66 | exact dc_n hv (hw (by omega)) c_66)) (lc_cons (congrArg (fun z : Nat => ((5 : Nat), Value.int (nI z))) (show (i + 1 : Nat) = (i + 1) from by first | rfl | omega)) rfl)))))))
      · refine lv_iinc (v := nI ((sm_ (dcf_ v) i) + 1)) (lv' := [(4, .int (nI ((sm_ (dcf_ v) i) + 1))), (6, .int (nI (lw_ v i))), (0, .ref (a 0)), (1, .int (nI (hh_ v))), (2, .int (nI (tt_ v))), (3, .int (la_ v (hh_ v) (tt_ v))), (5, .int (nI (i)))]) hx hb dX0_decisiveTosses_69 hl (k := 5) rfl (nI_add _ _) (by decide) rfl (fun ls hl => ?_)
        refine lv_iinc (v := nI (i + 1)) (lv' := [(5, .int (nI (i + 1))), (4, .int (nI ((sm_ (dcf_ v) i) + 1))), (6, .int (nI (lw_ v i))), (0, .ref (a 0)), (1, .int (nI (hh_ v))), (2, .int (nI (tt_ v))), (3, .int (la_ v (hh_ v) (tt_ v)))]) hx hb dX0_decisiveTosses_72 hl (k := 6) rfl (nI_add _ _) (by decide) rfl (fun ls hl => ?_)
        refine lv_goto (tgt := 23) hx hb dX0_decisiveTosses_75 (by decide) ?_
        exact ih_23 (i + 1) ls (by omega) (lv_cast (k := [(0, .ref (a 0)), (1, .int (nI (hh_ v))), (2, .int (nI (tt_ v))), (3, .int (la_ v (hh_ v) (tt_ v))), (4, .int (nI ((sm_ (dcf_ v) i) + 1))), (5, .int (nI (i + 1)))]) (lv_sub hl [3, 4, 5, 6, 1, 0] rfl) (lc_cons rfl (lc_cons rfl (lc_cons rfl (lc_cons rfl (lc_cons (congrArg (fun z : Nat => ((4 : Nat), Value.int (nI z))) (show ((sm_ (dcf_ v) i) + 1 : Nat) = sm_ (dcf_ v) (i + 1) from by first | exact dc_e hv (hw (by omega)) c_66 | exact dc_n hv (hw (by omega)) c_66)) (lc_cons (congrArg (fun z : Nat => ((5 : Nat), Value.int (nI z))) (show (i + 1 : Nat) = (i + 1) from by first | rfl | omega)) rfl)))))))
    · refine lv_aload_n hx hb dX0_decisiveTosses_42 rfl (lv_at hl 0 rfl) ?_
      refine lv_iload_n hx hb dX0_decisiveTosses_43 rfl (lv_at hl 1 rfl) ?_
      refine lv_iconst (v := nI (1)) hx hb dX0_decisiveTosses_44 (by decide) ?_
      refine nv_isub (r := (hh_ v) - 1) hx hb dX0_decisiveTosses_45 (by have := hh_pos (v := v) (i := i) (by omega) c_39; omega) ?_
      refine lv_iload_n hx hb dX0_decisiveTosses_46 rfl (lv_at hl 2 rfl) ?_
      refine rd_V (rest := []) ⟨hx, hb, hml, hown, hts⟩ (c_X0_leaderAt l D κ a v hv ((hh_ v) - 1) (tt_ v) (by omega)) g_X0_108 n_X0_leaderAt ⟨Nat.le_of_ble_eq_true rfl, Nat.le_of_ble_eq_true rfl⟩ hK hP rfl rfl rfl hl.1 rfl (Nat.le_of_ble_eq_true rfl) dX0_decisiveTosses_47 ⟨Nat.zero_le _, Nat.zero_le _⟩ ?_
      refine lv_goto (tgt := 61) hx hb dX0_decisiveTosses_50 (by decide) ?_
      refine nv_topi (show (la_ v ((hh_ v) - 1) (tt_ v) : Int32) = nI (lw_ v i) from by exact lw_la_t (hw (by omega)) c_39) ?_
      refine lv_istore (lv' := [(6, .int (nI (lw_ v i))), (0, .ref (a 0)), (1, .int (nI (hh_ v))), (2, .int (nI (tt_ v))), (3, .int (la_ v (hh_ v) (tt_ v))), (4, .int (nI (sm_ (dcf_ v) i))), (5, .int (nI (i)))]) hx hb dX0_decisiveTosses_61 hl (by decide) rfl (fun ls hl => ?_)
      refine lv_iload hx hb dX0_decisiveTosses_63 (lv_at hl 0 rfl) ?_
      refine lv_iload_n hx hb dX0_decisiveTosses_65 rfl (lv_at hl 4 rfl) ?_
      refine lv_icmp_eq (tgt := 72) hx hb dX0_decisiveTosses_66 (by decide) (fun c_66 => ?_) (fun c_66 => ?_)
      · refine lv_iinc (v := nI (i + 1)) (lv' := [(5, .int (nI (i + 1))), (6, .int (nI (lw_ v i))), (0, .ref (a 0)), (1, .int (nI (hh_ v))), (2, .int (nI (tt_ v))), (3, .int (la_ v (hh_ v) (tt_ v))), (4, .int (nI (sm_ (dcf_ v) i)))]) hx hb dX0_decisiveTosses_72 hl (k := 6) rfl (nI_add _ _) (by decide) rfl (fun ls hl => ?_)
        refine lv_goto (tgt := 23) hx hb dX0_decisiveTosses_75 (by decide) ?_
        exact ih_23 (i + 1) ls (by omega) (lv_cast (k := [(0, .ref (a 0)), (1, .int (nI (hh_ v))), (2, .int (nI (tt_ v))), (3, .int (la_ v (hh_ v) (tt_ v))), (4, .int (nI (sm_ (dcf_ v) i))), (5, .int (nI (i + 1)))]) (lv_sub hl [2, 3, 4, 5, 6, 0] rfl) (lc_cons rfl (lc_cons rfl (lc_cons rfl (lc_cons rfl (lc_cons (congrArg (fun z : Nat => ((4 : Nat), Value.int (nI z))) (show (sm_ (dcf_ v) i : Nat) = sm_ (dcf_ v) (i + 1) from by first | exact dc_e hv (hw (by omega)) c_66 | exact dc_n hv (hw (by omega)) c_66)) (lc_cons (congrArg (fun z : Nat => ((5 : Nat), Value.int (nI z))) (show (i + 1 : Nat) = (i + 1) from by first | rfl | omega)) rfl)))))))
      · refine lv_iinc (v := nI ((sm_ (dcf_ v) i) + 1)) (lv' := [(4, .int (nI ((sm_ (dcf_ v) i) + 1))), (6, .int (nI (lw_ v i))), (0, .ref (a 0)), (1, .int (nI (hh_ v))), (2, .int (nI (tt_ v))), (3, .int (la_ v (hh_ v) (tt_ v))), (5, .int (nI (i)))]) hx hb dX0_decisiveTosses_69 hl (k := 5) rfl (nI_add _ _) (by decide) rfl (fun ls hl => ?_)
        refine lv_iinc (v := nI (i + 1)) (lv' := [(5, .int (nI (i + 1))), (4, .int (nI ((sm_ (dcf_ v) i) + 1))), (6, .int (nI (lw_ v i))), (0, .ref (a 0)), (1, .int (nI (hh_ v))), (2, .int (nI (tt_ v))), (3, .int (la_ v (hh_ v) (tt_ v)))]) hx hb dX0_decisiveTosses_72 hl (k := 6) rfl (nI_add _ _) (by decide) rfl (fun ls hl => ?_)
        refine lv_goto (tgt := 23) hx hb dX0_decisiveTosses_75 (by decide) ?_
        exact ih_23 (i + 1) ls (by omega) (lv_cast (k := [(0, .ref (a 0)), (1, .int (nI (hh_ v))), (2, .int (nI (tt_ v))), (3, .int (la_ v (hh_ v) (tt_ v))), (4, .int (nI ((sm_ (dcf_ v) i) + 1))), (5, .int (nI (i + 1)))]) (lv_sub hl [3, 4, 5, 6, 1, 0] rfl) (lc_cons rfl (lc_cons rfl (lc_cons rfl (lc_cons rfl (lc_cons (congrArg (fun z : Nat => ((4 : Nat), Value.int (nI z))) (show ((sm_ (dcf_ v) i) + 1 : Nat) = sm_ (dcf_ v) (i + 1) from by first | exact dc_e hv (hw (by omega)) c_66 | exact dc_n hv (hw (by omega)) c_66)) (lc_cons (congrArg (fun z : Nat => ((5 : Nat), Value.int (nI z))) (show (i + 1 : Nat) = (i + 1) from by first | rfl | omega)) rfl)))))))
set_option maxHeartbeats 4000000 in
set_option maxRecDepth 100000 in
theorem c_X0_meanTenths (l : Launch) (D : va_G) (κ : Nat → ClassId) (a : Nat → Nat) (v : VS) (hv : ok_v v) (hw : 0 < wl_ v (hh_ v) (tt_ v)) : Rd l yX0_meanTenths cX0_meanTenths 3 (some .double) 4 98 (Pw D (kt_ κ) (xw κ a v) [.ref (a 0)]) (.double (mt_ v)) := by
  refine rd_intro (own := RX0) (by decide +kernel) rfl (Nat.le_of_ble_eq_true rfl) (fun p e s m args below meth c pc ls hx hb hr hlk d => ret_D hx hb hr hlk d) ?_
  intro p e s m args below meth c ls Qq hx hb hml hown hts hK hP hend hl
  have hl : lv_has ls 3 [(0, .ref (a 0))] := hl
  obtain ⟨hv1, hv2, hv3, hv4, hv5, hv6⟩ := id hv
  have hq1 := hh_le v
  have hq2 := hh_tt v
  have hb2 := wl_b hv (a := hh_ v) (b := tt_ v) (by omega)
  refine lv_aload_n hx hb dX0_meanTenths_0 rfl (lv_at hl 0 rfl) ?_
  refine rd_V (rest := []) ⟨hx, hb, hml, hown, hts⟩ (c_X0_wholeNow l D κ a v hv) g_X0_100 n_X0_wholeNow ⟨Nat.le_of_ble_eq_true rfl, Nat.le_of_ble_eq_true rfl⟩ hK hP rfl rfl rfl hl.1 rfl (Nat.le_of_ble_eq_true rfl) dX0_meanTenths_1 ⟨Nat.zero_le _, Nat.zero_le _⟩ ?_
  refine lv_lstore_n (lv' := [(1, .long (lN (wl_ v (hh_ v) (tt_ v)))), (0, .ref (a 0))]) hx hb dX0_meanTenths_4 rfl hl (by decide) rfl (fun ls hl => ?_)
  refine lv_lload_n hx hb dX0_meanTenths_5 rfl (lv_at hl 0 rfl) ?_
  refine lv_lconst (v := lN (0)) hx hb dX0_meanTenths_6 (by decide) ?_
  refine nv_lc_ne (tgt := 21) hx hb dX0_meanTenths_7 dX0_meanTenths_8 (by decide) (by omega) (by omega) (fun c_8 => ?_) (fun z => absurd z (by omega))
  refine lv_aload_n hx hb dX0_meanTenths_21 rfl (lv_at hl 1 rfl) ?_
  refine lv_iconst (v := nI (1)) hx hb dX0_meanTenths_22 (by decide) ?_
  refine nv_topi (show (nI (1) : Int32) = bI (true) from by rfl) ?_
  refine lv_aload_n hx hb dX0_meanTenths_23 rfl (lv_at hl 1 rfl) ?_
  refine rd_V (rest := [.int (bI (true)), .ref (a 0)]) ⟨hx, hb, hml, hown, hts⟩ (c_X0_headsNow l D κ a v hv) g_X0_69 n_X0_headsNow ⟨Nat.le_of_ble_eq_true rfl, Nat.le_of_ble_eq_true rfl⟩ hK hP rfl rfl rfl hl.1 rfl (Nat.le_of_ble_eq_true rfl) dX0_meanTenths_24 ⟨Nat.zero_le _, Nat.zero_le _⟩ ?_
  refine lv_aload_n hx hb dX0_meanTenths_27 rfl (lv_at hl 1 rfl) ?_
  refine rd_V (rest := [.int (nI (hh_ v)), .int (bI (true)), .ref (a 0)]) ⟨hx, hb, hml, hown, hts⟩ (c_X0_tailsNow l D κ a v hv) g_X0_73 n_X0_tailsNow ⟨Nat.le_of_ble_eq_true rfl, Nat.le_of_ble_eq_true rfl⟩ hK hP rfl rfl rfl hl.1 rfl (Nat.le_of_ble_eq_true rfl) dX0_meanTenths_28 ⟨Nat.zero_le _, Nat.zero_le _⟩ ?_
  refine rd_V (rest := []) ⟨hx, hb, hml, hown, hts⟩ (c_X0_chance l D κ a v hv (true) (hh_ v) (tt_ v) (by omega) (by omega)) g_X0_120 n_X0_chance ⟨Nat.le_of_ble_eq_true rfl, Nat.le_of_ble_eq_true rfl⟩ hK hP rfl rfl rfl hl.1 rfl (Nat.le_of_ble_eq_true rfl) dX0_meanTenths_31 ⟨Nat.zero_le _, Nat.zero_le _⟩ ?_
  refine lv_l2d hx hb dX0_meanTenths_34 ?_
  refine lv_lload_n hx hb dX0_meanTenths_35 rfl (lv_at hl 0 rfl) ?_
  refine lv_l2d hx hb dX0_meanTenths_36 ?_
  refine lv_ddiv hx hb dX0_meanTenths_37 (dd_ok _ hw (by omega)) ?_
  refine nv_top (congrArg Value.double (show (FP.ddiv (FP.l2d (lN (ch_ v true (hh_ v) (tt_ v)))) (FP.l2d (lN (wl_ v (hh_ v) (tt_ v)))) : UInt64) = mt_ v from by rfl)) ?_
  exact hend _ _ dX0_meanTenths_38
set_option maxHeartbeats 4000000 in
set_option maxRecDepth 100000 in
theorem c_X0_digestWithCoins (l : Launch) (D : va_G) (κ : Nat → ClassId) (a : Nat → Nat) (v : VS) (hv : ok_v v) (d_ : Int64) : Rd l yX0_digestWithCoins cX0_digestWithCoins 8 (some .long) 4 105 (Pw D (kt_ κ) (xw κ a v) [.ref (a 0), .long (d_)]) (.long (dC_ v d_ (vs_c v))) := by
  refine rd_intro (own := RX0) (by decide +kernel) rfl (Nat.le_of_ble_eq_true rfl) (fun p e s m args below meth c pc ls hx hb hr hlk d => ret_L hx hb hr hlk d) ?_
  intro p e s m args below meth c ls Qq hx hb hml hown hts hK hP hend hl
  have hl : lv_has ls 8 [(0, .ref (a 0)), (1, .long (d_))] := hl
  obtain ⟨hv1, hv2, hv3, hv4, hv5, hv6⟩ := id hv
  have hq1 := hh_le v
  have hq2 := hh_tt v
  refine lv_aload_n hx hb dX0_digestWithCoins_0 rfl (lv_at hl 0 rfl) ?_
  refine rd_V (rest := []) ⟨hx, hb, hml, hown, hts⟩ (c_X0_headsNow l D κ a v hv) g_X0_69 n_X0_headsNow ⟨Nat.le_of_ble_eq_true rfl, Nat.le_of_ble_eq_true rfl⟩ hK hP rfl rfl rfl hl.1 rfl (Nat.le_of_ble_eq_true rfl) dX0_digestWithCoins_1 ⟨Nat.zero_le _, Nat.zero_le _⟩ ?_
  refine lv_istore_n (lv' := [(3, .int (nI (hh_ v))), (0, .ref (a 0)), (1, .long (d_))]) hx hb dX0_digestWithCoins_4 rfl hl (by decide) rfl (fun ls hl => ?_)
  refine lv_aload_n hx hb dX0_digestWithCoins_5 rfl (lv_at hl 1 rfl) ?_
  refine rd_V (rest := []) ⟨hx, hb, hml, hown, hts⟩ (c_X0_tailsNow l D κ a v hv) g_X0_73 n_X0_tailsNow ⟨Nat.le_of_ble_eq_true rfl, Nat.le_of_ble_eq_true rfl⟩ hK hP rfl rfl rfl hl.1 rfl (Nat.le_of_ble_eq_true rfl) dX0_digestWithCoins_6 ⟨Nat.zero_le _, Nat.zero_le _⟩ ?_
  refine lv_istore (lv' := [(4, .int (nI (tt_ v))), (3, .int (nI (hh_ v))), (0, .ref (a 0)), (1, .long (d_))]) hx hb dX0_digestWithCoins_9 hl (by decide) rfl (fun ls hl => ?_)
  refine lv_lload_n hx hb dX0_digestWithCoins_11 rfl (lv_at hl 3 rfl) ?_
  refine lv_lstore (lv' := [(5, .long (d_)), (4, .int (nI (tt_ v))), (3, .int (nI (hh_ v))), (0, .ref (a 0)), (1, .long (d_))]) hx hb dX0_digestWithCoins_12 hl (by decide) rfl (fun ls hl => ?_)
  refine lv_iconst (v := nI (0)) hx hb dX0_digestWithCoins_14 (by decide) ?_
  refine lv_istore (lv' := [(7, .int (nI (0))), (5, .long (d_)), (4, .int (nI (tt_ v))), (3, .int (nI (hh_ v))), (0, .ref (a 0)), (1, .long (d_))]) hx hb dX0_digestWithCoins_15 hl (by decide) rfl (fun ls hl => ?_)
  suffices hloop_17 : ∀ (n_17 i : Nat) (ls : Array Slot), i + n_17 = vs_c v → lv_has ls 8 [(0, .ref (a 0)), (1, .long (d_)), (3, .int (nI (hh_ v))), (4, .int (nI (tt_ v))), (5, .long (dC_ v d_ i)), (7, .int (nI (i)))] → W p l e (rm_ 4 105) s m args below meth c s.heap [] 0 0 Qq (F0 m 17 ls []) from hloop_17 (vs_c v - 0) (0) ls (by omega) (lv_cast (k := [(0, .ref (a 0)), (1, .long (d_)), (3, .int (nI (hh_ v))), (4, .int (nI (tt_ v))), (5, .long (d_)), (7, .int (nI (0)))]) (lv_sub hl [4, 5, 3, 2, 1, 0] rfl) (lc_cons rfl (lc_cons rfl (lc_cons rfl (lc_cons rfl (lc_cons (congrArg (fun z : Int64 => ((5 : Nat), Value.long z)) (show (d_ : Int64) = dC_ v d_ 0 from by rfl)) (lc_cons rfl rfl)))))))
  intro n_17
  induction n_17 with
  | zero =>
    intro i ls hin_17 hl
    have hi_17 : i = vs_c v := by omega
    have h4 := hv4 i
    refine lv_iload hx hb dX0_digestWithCoins_17 (lv_at hl 5 rfl) ?_
    refine lv_aload_n hx hb dX0_digestWithCoins_19 rfl (lv_at hl 0 rfl) ?_
    refine va_get (D := D) (ci := 0) (v := .int (nI (vs_c v))) (C := RX0) (T := TX0) (N := 7) hx hb hts i_X0 hown hK hP 0 rfl rfl 4 (by decide) (hts _ q_f_X0_25) (fun _ h9 => h9) rfl dX0_digestWithCoins_20 ?_
    refine nv_icmp_ge (tgt := 77) hx hb dX0_digestWithCoins_23 (by decide) (by omega) (by omega) (fun c_23 => ?_) (fun z => absurd z (by omega))
    refine lv_lload hx hb dX0_digestWithCoins_77 (lv_at hl 4 rfl) ?_
    refine nv_topl (show (dC_ v d_ i : Int64) = dC_ v d_ (vs_c v) from by rw [hi_17]) ?_
    exact hend _ _ dX0_digestWithCoins_79
  | succ n_17 ih_17 =>
    intro i ls hin_17 hl
    have h4 := hv4 i
    refine lv_iload hx hb dX0_digestWithCoins_17 (lv_at hl 5 rfl) ?_
    refine lv_aload_n hx hb dX0_digestWithCoins_19 rfl (lv_at hl 0 rfl) ?_
    refine va_get (D := D) (ci := 0) (v := .int (nI (vs_c v))) (C := RX0) (T := TX0) (N := 7) hx hb hts i_X0 hown hK hP 0 rfl rfl 4 (by decide) (hts _ q_f_X0_25) (fun _ h9 => h9) rfl dX0_digestWithCoins_20 ?_
    refine nv_icmp_ge (tgt := 77) hx hb dX0_digestWithCoins_23 (by decide) (by omega) (by omega) (fun z => absurd z (by omega)) (fun c_23 => ?_)
    refine lv_lload hx hb dX0_digestWithCoins_26 (lv_at hl 4 rfl) ?_
    refine lv_aload_n hx hb dX0_digestWithCoins_28 rfl (lv_at hl 0 rfl) ?_
    refine va_get (D := D) (ci := 0) (v := .ref (a 1)) (C := RX0) (T := TX0) (N := 7) hx hb hts i_X0 hown hK hP 0 rfl rfl 0 (by decide) (hts _ q_f_X0_9) (fun _ h9 => h9) rfl dX0_digestWithCoins_29 ?_
    refine lv_iload hx hb dX0_digestWithCoins_32 (lv_at hl 5 rfl) ?_
    refine nv_iald hx hb hK hP 1 0 (n := 8) (v := nI (vs_ct v i)) rfl rfl (by omega) (by decide) rfl dX0_digestWithCoins_34 ?_
    refine nv_i2l hx hb dX0_digestWithCoins_35 (by omega) ?_
    refine rd_S (rest := []) ⟨hx, hb, hml, hown, hts⟩ (c_X0_digestWith l (dC_ v d_ i) (lN (vs_ct v i))) g_X0_129 n_X0_digestWith ⟨Nat.le_of_ble_eq_true rfl, Nat.le_of_ble_eq_true rfl⟩ rfl hl.1 rfl (Nat.le_of_ble_eq_true rfl) dX0_digestWithCoins_36 ⟨Nat.zero_le _, Nat.zero_le _⟩ ?_
    refine lv_lstore (lv' := [(5, .long (dg_ (dC_ v d_ i) (lN (vs_ct v i)))), (0, .ref (a 0)), (1, .long (d_)), (3, .int (nI (hh_ v))), (4, .int (nI (tt_ v))), (7, .int (nI (i)))]) hx hb dX0_digestWithCoins_39 hl (by decide) rfl (fun ls hl => ?_)
    refine lv_lload hx hb dX0_digestWithCoins_41 (lv_at hl 0 rfl) ?_
    refine lv_aload_n hx hb dX0_digestWithCoins_43 rfl (lv_at hl 1 rfl) ?_
    refine lv_iload hx hb dX0_digestWithCoins_44 (lv_at hl 5 rfl) ?_
    refine lv_iload_n hx hb dX0_digestWithCoins_46 rfl (lv_at hl 3 rfl) ?_
    refine lv_iload hx hb dX0_digestWithCoins_47 (lv_at hl 4 rfl) ?_
    refine rd_V (rest := [.long (dg_ (dC_ v d_ i) (lN (vs_ct v i)))]) ⟨hx, hb, hml, hown, hts⟩ (c_X0_coinWeightAt l D κ a v hv (i) (hh_ v) (tt_ v) (by omega) (by omega) (by omega)) g_X0_93 n_X0_coinWeightAt ⟨Nat.le_of_ble_eq_true rfl, Nat.le_of_ble_eq_true rfl⟩ hK hP rfl rfl rfl hl.1 rfl (Nat.le_of_ble_eq_true rfl) dX0_digestWithCoins_49 ⟨Nat.zero_le _, Nat.zero_le _⟩ ?_
    refine rd_S (rest := []) ⟨hx, hb, hml, hown, hts⟩ (c_X0_digestWith l (dg_ (dC_ v d_ i) (lN (vs_ct v i))) (lN (wt_ v i (hh_ v) (tt_ v)))) g_X0_129 n_X0_digestWith ⟨Nat.le_of_ble_eq_true rfl, Nat.le_of_ble_eq_true rfl⟩ rfl hl.1 rfl (Nat.le_of_ble_eq_true rfl) dX0_digestWithCoins_52 ⟨Nat.zero_le _, Nat.zero_le _⟩ ?_
    refine lv_lstore (lv' := [(5, .long (dg_ (dg_ (dC_ v d_ i) (lN (vs_ct v i))) (lN (wt_ v i (hh_ v) (tt_ v))))), (0, .ref (a 0)), (1, .long (d_)), (3, .int (nI (hh_ v))), (4, .int (nI (tt_ v))), (7, .int (nI (i)))]) hx hb dX0_digestWithCoins_55 hl (by decide) rfl (fun ls hl => ?_)
    refine lv_lload hx hb dX0_digestWithCoins_57 (lv_at hl 0 rfl) ?_
    refine lv_aload_n hx hb dX0_digestWithCoins_59 rfl (lv_at hl 1 rfl) ?_
    refine lv_iload hx hb dX0_digestWithCoins_60 (lv_at hl 5 rfl) ?_
    refine rd_V (rest := [.long (dg_ (dg_ (dC_ v d_ i) (lN (vs_ct v i))) (lN (wt_ v i (hh_ v) (tt_ v))))]) ⟨hx, hb, hml, hown, hts⟩ (c_X0_tossesToLead l D κ a v hv (i) (by omega)) g_X0_191 n_X0_tossesToLead ⟨Nat.le_of_ble_eq_true rfl, Nat.le_of_ble_eq_true rfl⟩ hK hP rfl rfl rfl hl.1 rfl (Nat.le_of_ble_eq_true rfl) dX0_digestWithCoins_62 ⟨Nat.zero_le _, Nat.zero_le _⟩ ?_
    refine lv_i2l (v := (tl_ v i).toInt64) hx hb dX0_digestWithCoins_65 rfl ?_
    refine rd_S (rest := []) ⟨hx, hb, hml, hown, hts⟩ (c_X0_digestWith l (dg_ (dg_ (dC_ v d_ i) (lN (vs_ct v i))) (lN (wt_ v i (hh_ v) (tt_ v)))) ((tl_ v i).toInt64)) g_X0_129 n_X0_digestWith ⟨Nat.le_of_ble_eq_true rfl, Nat.le_of_ble_eq_true rfl⟩ rfl hl.1 rfl (Nat.le_of_ble_eq_true rfl) dX0_digestWithCoins_66 ⟨Nat.zero_le _, Nat.zero_le _⟩ ?_
    refine lv_lstore (lv' := [(5, .long (dg_ (dg_ (dg_ (dC_ v d_ i) (lN (vs_ct v i))) (lN (wt_ v i (hh_ v) (tt_ v)))) ((tl_ v i).toInt64))), (0, .ref (a 0)), (1, .long (d_)), (3, .int (nI (hh_ v))), (4, .int (nI (tt_ v))), (7, .int (nI (i)))]) hx hb dX0_digestWithCoins_69 hl (by decide) rfl (fun ls hl => ?_)
    refine lv_iinc (v := nI (i + 1)) (lv' := [(7, .int (nI (i + 1))), (5, .long (dg_ (dg_ (dg_ (dC_ v d_ i) (lN (vs_ct v i))) (lN (wt_ v i (hh_ v) (tt_ v)))) ((tl_ v i).toInt64))), (0, .ref (a 0)), (1, .long (d_)), (3, .int (nI (hh_ v))), (4, .int (nI (tt_ v)))]) hx hb dX0_digestWithCoins_71 hl (k := 5) rfl (nI_add _ _) (by decide) rfl (fun ls hl => ?_)
    refine lv_goto (tgt := 17) hx hb dX0_digestWithCoins_74 (by decide) ?_
    exact ih_17 (i + 1) ls (by omega) (lv_cast (k := [(0, .ref (a 0)), (1, .long (d_)), (3, .int (nI (hh_ v))), (4, .int (nI (tt_ v))), (5, .long (dg_ (dg_ (dg_ (dC_ v d_ i) (lN (vs_ct v i))) (lN (wt_ v i (hh_ v) (tt_ v)))) ((tl_ v i).toInt64))), (7, .int (nI (i + 1)))]) (lv_sub hl [2, 3, 4, 5, 1, 0] rfl) (lc_cons rfl (lc_cons rfl (lc_cons rfl (lc_cons rfl (lc_cons (congrArg (fun z : Int64 => ((5 : Nat), Value.long z)) (show (dg_ (dg_ (dg_ (dC_ v d_ i) (lN (vs_ct v i))) (lN (wt_ v i (hh_ v) (tt_ v)))) ((tl_ v i).toInt64) : Int64) = dC_ v d_ (i + 1) from by rfl)) (lc_cons (congrArg (fun z : Nat => ((7 : Nat), Value.int (nI z))) (show (i + 1 : Nat) = (i + 1) from by first | rfl | omega)) rfl)))))))
set_option maxHeartbeats 4000000 in
set_option maxRecDepth 100000 in
theorem c_X0_digestWithSchools (l : Launch) (D : va_G) (κ : Nat → ClassId) (a : Nat → Nat) (v : VS) (hv : ok_v v) (d_ : Int64) : Rd l yX0_digestWithSchools cX0_digestWithSchools 7 (some .long) 3 69 (Pw D (kt_ κ) (xw κ a v) [.ref (a 0), .long (d_)]) (.long (dS_ v d_ (vs_n v))) := by
  refine rd_intro (own := RX0) (by decide +kernel) rfl (Nat.le_of_ble_eq_true rfl) (fun p e s m args below meth c pc ls hx hb hr hlk d => ret_L hx hb hr hlk d) ?_
  intro p e s m args below meth c ls Qq hx hb hml hown hts hK hP hend hl
  have hl : lv_has ls 7 [(0, .ref (a 0)), (1, .long (d_))] := hl
  obtain ⟨hv1, hv2, hv3, hv4, hv5, hv6⟩ := id hv
  refine lv_lload_n hx hb dX0_digestWithSchools_0 rfl (lv_at hl 1 rfl) ?_
  refine lv_lstore_n (lv' := [(3, .long (d_)), (0, .ref (a 0)), (1, .long (d_))]) hx hb dX0_digestWithSchools_1 rfl hl (by decide) rfl (fun ls hl => ?_)
  refine lv_iconst (v := nI (0)) hx hb dX0_digestWithSchools_2 (by decide) ?_
  refine lv_istore (lv' := [(5, .int (nI (0))), (3, .long (d_)), (0, .ref (a 0)), (1, .long (d_))]) hx hb dX0_digestWithSchools_3 hl (by decide) rfl (fun ls hl => ?_)
  suffices hloop_5 : ∀ (n_5 i : Nat) (ls : Array Slot), i + n_5 = vs_n v → lv_has ls 7 [(0, .ref (a 0)), (1, .long (d_)), (3, .long (dS_ v d_ i)), (5, .int (nI (i)))] → W p l e (rm_ 3 69) s m args below meth c s.heap [] 0 0 Qq (F0 m 5 ls []) from hloop_5 (vs_n v - 0) (0) ls (by omega) (lv_cast (k := [(0, .ref (a 0)), (1, .long (d_)), (3, .long (d_)), (5, .int (nI (0)))]) (lv_sub hl [2, 3, 1, 0] rfl) (lc_cons rfl (lc_cons rfl (lc_cons (congrArg (fun z : Int64 => ((3 : Nat), Value.long z)) (show (d_ : Int64) = dS_ v d_ 0 from by rfl)) (lc_cons rfl rfl)))))
  intro n_5
  induction n_5 with
  | zero =>
    intro i ls hin_5 hl
    have hi_5 : i = vs_n v := by omega
    have h5 := hv5 i
    refine lv_iload hx hb dX0_digestWithSchools_5 (lv_at hl 3 rfl) ?_
    refine lv_aload_n hx hb dX0_digestWithSchools_7 rfl (lv_at hl 0 rfl) ?_
    refine va_get (D := D) (ci := 0) (v := .int (nI (vs_n v))) (C := RX0) (T := TX0) (N := 7) hx hb hts i_X0 hown hK hP 0 rfl rfl 5 (by decide) (hts _ q_f_X0_29) (fun _ h9 => h9) rfl dX0_digestWithSchools_8 ?_
    refine nv_icmp_ge (tgt := 78) hx hb dX0_digestWithSchools_11 (by decide) (by omega) (by omega) (fun c_11 => ?_) (fun z => absurd z (by omega))
    refine lv_lload_n hx hb dX0_digestWithSchools_78 rfl (lv_at hl 2 rfl) ?_
    refine nv_topl (show (dS_ v d_ i : Int64) = dS_ v d_ (vs_n v) from by rw [hi_5]) ?_
    exact hend _ _ dX0_digestWithSchools_79
  | succ n_5 ih_5 =>
    intro i ls hin_5 hl
    have h5 := hv5 i
    refine lv_iload hx hb dX0_digestWithSchools_5 (lv_at hl 3 rfl) ?_
    refine lv_aload_n hx hb dX0_digestWithSchools_7 rfl (lv_at hl 0 rfl) ?_
    refine va_get (D := D) (ci := 0) (v := .int (nI (vs_n v))) (C := RX0) (T := TX0) (N := 7) hx hb hts i_X0 hown hK hP 0 rfl rfl 5 (by decide) (hts _ q_f_X0_29) (fun _ h9 => h9) rfl dX0_digestWithSchools_8 ?_
    refine nv_icmp_ge (tgt := 78) hx hb dX0_digestWithSchools_11 (by decide) (by omega) (by omega) (fun z => absurd z (by omega)) (fun c_11 => ?_)
    refine lv_lload_n hx hb dX0_digestWithSchools_14 rfl (lv_at hl 2 rfl) ?_
    refine lv_aload_n hx hb dX0_digestWithSchools_15 rfl (lv_at hl 0 rfl) ?_
    refine va_get (D := D) (ci := 0) (v := .ref (a 2)) (C := RX0) (T := TX0) (N := 7) hx hb hts i_X0 hown hK hP 0 rfl rfl 1 (by decide) (hts _ q_f_X0_13) (fun _ h9 => h9) rfl dX0_digestWithSchools_16 ?_
    refine lv_iload hx hb dX0_digestWithSchools_19 (lv_at hl 3 rfl) ?_
    refine nv_iald hx hb hK hP 2 0 (n := 4) (v := nI (vs_so v i)) rfl rfl (by omega) (by decide) rfl dX0_digestWithSchools_21 ?_
    refine nv_i2l hx hb dX0_digestWithSchools_22 (by omega) ?_
    refine rd_S (rest := []) ⟨hx, hb, hml, hown, hts⟩ (c_X0_digestWith l (dS_ v d_ i) (lN (vs_so v i))) g_X0_129 n_X0_digestWith ⟨Nat.le_of_ble_eq_true rfl, Nat.le_of_ble_eq_true rfl⟩ rfl hl.1 rfl (Nat.le_of_ble_eq_true rfl) dX0_digestWithSchools_23 ⟨Nat.zero_le _, Nat.zero_le _⟩ ?_
    refine lv_lstore_n (lv' := [(3, .long (dg_ (dS_ v d_ i) (lN (vs_so v i)))), (0, .ref (a 0)), (1, .long (d_)), (5, .int (nI (i)))]) hx hb dX0_digestWithSchools_26 rfl hl (by decide) rfl (fun ls hl => ?_)
    refine lv_lload_n hx hb dX0_digestWithSchools_27 rfl (lv_at hl 0 rfl) ?_
    refine lv_aload_n hx hb dX0_digestWithSchools_28 rfl (lv_at hl 1 rfl) ?_
    refine lv_iload hx hb dX0_digestWithSchools_29 (lv_at hl 3 rfl) ?_
    refine rd_V (rest := [.long (dg_ (dS_ v d_ i) (lN (vs_so v i)))]) ⟨hx, hb, hml, hown, hts⟩ (c_X0_schoolWeightNow l D κ a v hv (i) (by omega)) g_X0_96 n_X0_schoolWeightNow ⟨Nat.le_of_ble_eq_true rfl, Nat.le_of_ble_eq_true rfl⟩ hK hP rfl rfl rfl hl.1 rfl (Nat.le_of_ble_eq_true rfl) dX0_digestWithSchools_31 ⟨Nat.zero_le _, Nat.zero_le _⟩ ?_
    refine rd_S (rest := []) ⟨hx, hb, hml, hown, hts⟩ (c_X0_digestWith l (dg_ (dS_ v d_ i) (lN (vs_so v i))) (lN (sc_ v i (hh_ v) (tt_ v)))) g_X0_129 n_X0_digestWith ⟨Nat.le_of_ble_eq_true rfl, Nat.le_of_ble_eq_true rfl⟩ rfl hl.1 rfl (Nat.le_of_ble_eq_true rfl) dX0_digestWithSchools_34 ⟨Nat.zero_le _, Nat.zero_le _⟩ ?_
    refine lv_lstore_n (lv' := [(3, .long (dg_ (dg_ (dS_ v d_ i) (lN (vs_so v i))) (lN (sc_ v i (hh_ v) (tt_ v))))), (0, .ref (a 0)), (1, .long (d_)), (5, .int (nI (i)))]) hx hb dX0_digestWithSchools_37 rfl hl (by decide) rfl (fun ls hl => ?_)
    refine lv_iconst (v := nI (0)) hx hb dX0_digestWithSchools_38 (by decide) ?_
    refine lv_istore (lv' := [(6, .int (nI (0))), (3, .long (dg_ (dg_ (dS_ v d_ i) (lN (vs_so v i))) (lN (sc_ v i (hh_ v) (tt_ v))))), (0, .ref (a 0)), (1, .long (d_)), (5, .int (nI (i)))]) hx hb dX0_digestWithSchools_39 hl (by decide) rfl (fun ls hl => ?_)
    suffices hloop_41 : ∀ (n_41 j : Nat) (ls : Array Slot), j + n_41 = vs_c v → lv_has ls 7 [(0, .ref (a 0)), (1, .long (d_)), (3, .long (dI_ v i (dg_ (dg_ (dS_ v d_ i) (lN (vs_so v i))) (lN (sc_ v i (hh_ v) (tt_ v)))) j)), (5, .int (nI (i))), (6, .int (nI (j)))] → W p l e (rm_ 3 69) s m args below meth c s.heap [] 0 0 Qq (F0 m 41 ls []) from hloop_41 (vs_c v - 0) (0) ls (by omega) (lv_cast (k := [(0, .ref (a 0)), (1, .long (d_)), (3, .long (dg_ (dg_ (dS_ v d_ i) (lN (vs_so v i))) (lN (sc_ v i (hh_ v) (tt_ v))))), (5, .int (nI (i))), (6, .int (nI (0)))]) (lv_sub hl [2, 3, 1, 4, 0] rfl) (lc_cons rfl (lc_cons rfl (lc_cons (congrArg (fun z : Int64 => ((3 : Nat), Value.long z)) (show (dg_ (dg_ (dS_ v d_ i) (lN (vs_so v i))) (lN (sc_ v i (hh_ v) (tt_ v))) : Int64) = dI_ v i (dg_ (dg_ (dS_ v d_ i) (lN (vs_so v i))) (lN (sc_ v i (hh_ v) (tt_ v)))) 0 from by rfl)) (lc_cons rfl (lc_cons rfl rfl))))))
    intro n_41
    induction n_41 with
    | zero =>
      intro j ls hin_41 hl
      have hi_41 : j = vs_c v := by omega
      have h6 := hv6 i j
      refine lv_iload hx hb dX0_digestWithSchools_41 (lv_at hl 4 rfl) ?_
      refine lv_aload_n hx hb dX0_digestWithSchools_43 rfl (lv_at hl 0 rfl) ?_
      refine va_get (D := D) (ci := 0) (v := .int (nI (vs_c v))) (C := RX0) (T := TX0) (N := 7) hx hb hts i_X0 hown hK hP 0 rfl rfl 4 (by decide) (hts _ q_f_X0_25) (fun _ h9 => h9) rfl dX0_digestWithSchools_44 ?_
      refine nv_icmp_ge (tgt := 72) hx hb dX0_digestWithSchools_47 (by decide) (by omega) (by omega) (fun c_47 => ?_) (fun z => absurd z (by omega))
      refine lv_iinc (v := nI (i + 1)) (lv' := [(5, .int (nI (i + 1))), (0, .ref (a 0)), (1, .long (d_)), (3, .long (dI_ v i (dg_ (dg_ (dS_ v d_ i) (lN (vs_so v i))) (lN (sc_ v i (hh_ v) (tt_ v)))) j)), (6, .int (nI (j)))]) hx hb dX0_digestWithSchools_72 hl (k := 3) rfl (nI_add _ _) (by decide) rfl (fun ls hl => ?_)
      refine lv_goto (tgt := 5) hx hb dX0_digestWithSchools_75 (by decide) ?_
      exact ih_5 (i + 1) ls (by omega) (lv_cast (k := [(0, .ref (a 0)), (1, .long (d_)), (3, .long (dI_ v i (dg_ (dg_ (dS_ v d_ i) (lN (vs_so v i))) (lN (sc_ v i (hh_ v) (tt_ v)))) j)), (5, .int (nI (i + 1)))]) (lv_sub hl [1, 2, 3, 0] rfl) (lc_cons rfl (lc_cons rfl (lc_cons (congrArg (fun z : Int64 => ((3 : Nat), Value.long z)) (show (dI_ v i (dg_ (dg_ (dS_ v d_ i) (lN (vs_so v i))) (lN (sc_ v i (hh_ v) (tt_ v)))) j : Int64) = dS_ v d_ (i + 1) from by rw [hi_41]; rfl)) (lc_cons (congrArg (fun z : Nat => ((5 : Nat), Value.int (nI z))) (show (i + 1 : Nat) = (i + 1) from by first | rfl | omega)) rfl)))))
    | succ n_41 ih_41 =>
      intro j ls hin_41 hl
      have h6 := hv6 i j
      refine lv_iload hx hb dX0_digestWithSchools_41 (lv_at hl 4 rfl) ?_
      refine lv_aload_n hx hb dX0_digestWithSchools_43 rfl (lv_at hl 0 rfl) ?_
      refine va_get (D := D) (ci := 0) (v := .int (nI (vs_c v))) (C := RX0) (T := TX0) (N := 7) hx hb hts i_X0 hown hK hP 0 rfl rfl 4 (by decide) (hts _ q_f_X0_25) (fun _ h9 => h9) rfl dX0_digestWithSchools_44 ?_
      refine nv_icmp_ge (tgt := 72) hx hb dX0_digestWithSchools_47 (by decide) (by omega) (by omega) (fun z => absurd z (by omega)) (fun c_47 => ?_)
      refine lv_lload_n hx hb dX0_digestWithSchools_50 rfl (lv_at hl 2 rfl) ?_
      refine lv_aload_n hx hb dX0_digestWithSchools_51 rfl (lv_at hl 0 rfl) ?_
      refine va_get (D := D) (ci := 0) (v := .ref (a 3)) (C := RX0) (T := TX0) (N := 7) hx hb hts i_X0 hown hK hP 0 rfl rfl 2 (by decide) (hts _ q_f_X0_18) (fun _ h9 => h9) rfl dX0_digestWithSchools_52 ?_
      refine lv_iload hx hb dX0_digestWithSchools_55 (lv_at hl 3 rfl) ?_
      refine nv_aald hx hb hK hP 3 1 (r := a (5 + i)) rfl rfl (by omega) (by decide) (xw_ref (by omega)) dX0_digestWithSchools_57 ?_
      refine lv_iload hx hb dX0_digestWithSchools_58 (lv_at hl 4 rfl) ?_
      refine nv_iald hx hb hK hP (5 + i) 0 (n := 8) (v := nI (vs_sh v i j)) (xw_row (by omega)) rfl (by omega) (by decide) rfl dX0_digestWithSchools_60 ?_
      refine nv_i2l hx hb dX0_digestWithSchools_61 (by omega) ?_
      refine rd_S (rest := []) ⟨hx, hb, hml, hown, hts⟩ (c_X0_digestWith l (dI_ v i (dg_ (dg_ (dS_ v d_ i) (lN (vs_so v i))) (lN (sc_ v i (hh_ v) (tt_ v)))) j) (lN (vs_sh v i j))) g_X0_129 n_X0_digestWith ⟨Nat.le_of_ble_eq_true rfl, Nat.le_of_ble_eq_true rfl⟩ rfl hl.1 rfl (Nat.le_of_ble_eq_true rfl) dX0_digestWithSchools_62 ⟨Nat.zero_le _, Nat.zero_le _⟩ ?_
      refine lv_lstore_n (lv' := [(3, .long (dg_ (dI_ v i (dg_ (dg_ (dS_ v d_ i) (lN (vs_so v i))) (lN (sc_ v i (hh_ v) (tt_ v)))) j) (lN (vs_sh v i j)))), (0, .ref (a 0)), (1, .long (d_)), (5, .int (nI (i))), (6, .int (nI (j)))]) hx hb dX0_digestWithSchools_65 rfl hl (by decide) rfl (fun ls hl => ?_)
      refine lv_iinc (v := nI (j + 1)) (lv' := [(6, .int (nI (j + 1))), (3, .long (dg_ (dI_ v i (dg_ (dg_ (dS_ v d_ i) (lN (vs_so v i))) (lN (sc_ v i (hh_ v) (tt_ v)))) j) (lN (vs_sh v i j)))), (0, .ref (a 0)), (1, .long (d_)), (5, .int (nI (i)))]) hx hb dX0_digestWithSchools_66 hl (k := 4) rfl (nI_add _ _) (by decide) rfl (fun ls hl => ?_)
      refine lv_goto (tgt := 41) hx hb dX0_digestWithSchools_69 (by decide) ?_
      exact ih_41 (j + 1) ls (by omega) (lv_cast (k := [(0, .ref (a 0)), (1, .long (d_)), (3, .long (dg_ (dI_ v i (dg_ (dg_ (dS_ v d_ i) (lN (vs_so v i))) (lN (sc_ v i (hh_ v) (tt_ v)))) j) (lN (vs_sh v i j)))), (5, .int (nI (i))), (6, .int (nI (j + 1)))]) (lv_sub hl [2, 3, 1, 4, 0] rfl) (lc_cons rfl (lc_cons rfl (lc_cons (congrArg (fun z : Int64 => ((3 : Nat), Value.long z)) (show (dg_ (dI_ v i (dg_ (dg_ (dS_ v d_ i) (lN (vs_so v i))) (lN (sc_ v i (hh_ v) (tt_ v)))) j) (lN (vs_sh v i j)) : Int64) = dI_ v i (dg_ (dg_ (dS_ v d_ i) (lN (vs_so v i))) (lN (sc_ v i (hh_ v) (tt_ v)))) (j + 1) from by rfl)) (lc_cons rfl (lc_cons (congrArg (fun z : Nat => ((6 : Nat), Value.int (nI z))) (show (j + 1 : Nat) = (j + 1) from by first | rfl | omega)) rfl))))))
set_option maxHeartbeats 4000000 in
set_option maxRecDepth 100000 in
theorem c_X0_digestWithTosses (l : Launch) (D : va_G) (κ : Nat → ClassId) (a : Nat → Nat) (v : VS) (hv : ok_v v) (d_ : Int64) : Rd l yX0_digestWithTosses cX0_digestWithTosses 6 (some .long) 5 130 (Pw D (kt_ κ) (xw κ a v) [.ref (a 0), .long (d_)]) (.long (dT_ v d_ (vs_t v))) := by
  refine rd_intro (own := RX0) (by decide +kernel) rfl (Nat.le_of_ble_eq_true rfl) (fun p e s m args below meth c pc ls hx hb hr hlk d => ret_L hx hb hr hlk d) ?_
  intro p e s m args below meth c ls Qq hx hb hml hown hts hK hP hend hl
  have hl : lv_has ls 6 [(0, .ref (a 0)), (1, .long (d_))] := hl
  obtain ⟨hv1, hv2, hv3, hv4, hv5, hv6⟩ := id hv
  refine lv_lload_n hx hb dX0_digestWithTosses_0 rfl (lv_at hl 1 rfl) ?_
  refine lv_lstore_n (lv' := [(3, .long (d_)), (0, .ref (a 0)), (1, .long (d_))]) hx hb dX0_digestWithTosses_1 rfl hl (by decide) rfl (fun ls hl => ?_)
  refine lv_iconst (v := nI (0)) hx hb dX0_digestWithTosses_2 (by decide) ?_
  refine lv_istore (lv' := [(5, .int (nI (0))), (3, .long (d_)), (0, .ref (a 0)), (1, .long (d_))]) hx hb dX0_digestWithTosses_3 hl (by decide) rfl (fun ls hl => ?_)
  suffices hloop_5 : ∀ (n_5 i : Nat) (ls : Array Slot), i + n_5 = vs_t v → lv_has ls 6 [(0, .ref (a 0)), (1, .long (d_)), (3, .long (dT_ v d_ i)), (5, .int (nI (i)))] → W p l e (rm_ 5 130) s m args below meth c s.heap [] 0 0 Qq (F0 m 5 ls []) from hloop_5 (vs_t v - 0) (0) ls (by omega) (lv_cast (k := [(0, .ref (a 0)), (1, .long (d_)), (3, .long (d_)), (5, .int (nI (0)))]) (lv_sub hl [2, 3, 1, 0] rfl) (lc_cons rfl (lc_cons rfl (lc_cons (congrArg (fun z : Int64 => ((3 : Nat), Value.long z)) (show (d_ : Int64) = dT_ v d_ 0 from by rfl)) (lc_cons rfl rfl)))))
  intro n_5
  induction n_5 with
  | zero =>
    intro i ls hin_5 hl
    have hi_5 : i = vs_t v := by omega
    have h7 := sa_le v i
    refine lv_iload hx hb dX0_digestWithTosses_5 (lv_at hl 3 rfl) ?_
    refine lv_aload_n hx hb dX0_digestWithTosses_7 rfl (lv_at hl 0 rfl) ?_
    refine va_get (D := D) (ci := 0) (v := .int (nI (vs_t v))) (C := RX0) (T := TX0) (N := 7) hx hb hts i_X0 hown hK hP 0 rfl rfl 6 (by decide) (hts _ q_f_X0_32) (fun _ h9 => h9) rfl dX0_digestWithTosses_8 ?_
    refine nv_icmp_ge (tgt := 52) hx hb dX0_digestWithTosses_11 (by decide) (by omega) (by omega) (fun c_11 => ?_) (fun z => absurd z (by omega))
    refine lv_lload_n hx hb dX0_digestWithTosses_52 rfl (lv_at hl 2 rfl) ?_
    refine nv_topl (show (dT_ v d_ i : Int64) = dT_ v d_ (vs_t v) from by rw [hi_5]) ?_
    exact hend _ _ dX0_digestWithTosses_53
  | succ n_5 ih_5 =>
    intro i ls hin_5 hl
    have h7 := sa_le v i
    refine lv_iload hx hb dX0_digestWithTosses_5 (lv_at hl 3 rfl) ?_
    refine lv_aload_n hx hb dX0_digestWithTosses_7 rfl (lv_at hl 0 rfl) ?_
    refine va_get (D := D) (ci := 0) (v := .int (nI (vs_t v))) (C := RX0) (T := TX0) (N := 7) hx hb hts i_X0 hown hK hP 0 rfl rfl 6 (by decide) (hts _ q_f_X0_32) (fun _ h9 => h9) rfl dX0_digestWithTosses_8 ?_
    refine nv_icmp_ge (tgt := 52) hx hb dX0_digestWithTosses_11 (by decide) (by omega) (by omega) (fun z => absurd z (by omega)) (fun c_11 => ?_)
    refine lv_lload_n hx hb dX0_digestWithTosses_14 rfl (lv_at hl 2 rfl) ?_
    refine lv_aload_n hx hb dX0_digestWithTosses_15 rfl (lv_at hl 0 rfl) ?_
    refine va_get (D := D) (ci := 0) (v := .ref (a 4)) (C := RX0) (T := TX0) (N := 7) hx hb hts i_X0 hown hK hP 0 rfl rfl 3 (by decide) (hts _ q_f_X0_21) (fun _ h9 => h9) rfl dX0_digestWithTosses_16 ?_
    refine lv_iload hx hb dX0_digestWithTosses_19 (lv_at hl 3 rfl) ?_
    refine nv_zald hx hb hK hP 4 2 (n := 12) (v := bI (vs_th v i)) rfl rfl (by omega) (by decide) rfl dX0_digestWithTosses_21 ?_
    refine bv_if_eq (tgt := 29) hx hb dX0_digestWithTosses_22 (by decide) (fun c_22 => ?_) (fun c_22 => ?_)
    · refine lv_lconst (v := lN (0)) hx hb dX0_digestWithTosses_29 (by decide) ?_
      refine nv_topl (congrArg lN (show (0 : Nat) = if vs_th v i then 1 else 0 from by simp [c_22])) ?_
      refine rd_S (rest := []) ⟨hx, hb, hml, hown, hts⟩ (c_X0_digestWith l (dT_ v d_ i) (lN (if vs_th v i then 1 else 0))) g_X0_129 n_X0_digestWith ⟨Nat.le_of_ble_eq_true rfl, Nat.le_of_ble_eq_true rfl⟩ rfl hl.1 rfl (Nat.le_of_ble_eq_true rfl) dX0_digestWithTosses_30 ⟨Nat.zero_le _, Nat.zero_le _⟩ ?_
      refine lv_lstore_n (lv' := [(3, .long (dg_ (dT_ v d_ i) (lN (if vs_th v i then 1 else 0)))), (0, .ref (a 0)), (1, .long (d_)), (5, .int (nI (i)))]) hx hb dX0_digestWithTosses_33 rfl hl (by decide) rfl (fun ls hl => ?_)
      refine lv_lload_n hx hb dX0_digestWithTosses_34 rfl (lv_at hl 0 rfl) ?_
      refine lv_aload_n hx hb dX0_digestWithTosses_35 rfl (lv_at hl 1 rfl) ?_
      refine lv_iload hx hb dX0_digestWithTosses_36 (lv_at hl 3 rfl) ?_
      refine rd_V (rest := [.long (dg_ (dT_ v d_ i) (lN (if vs_th v i then 1 else 0)))]) ⟨hx, hb, hml, hown, hts⟩ (c_X0_surpriseAt l D κ a v hv (i) (by omega)) g_X0_116 n_X0_surpriseAt ⟨Nat.le_of_ble_eq_true rfl, Nat.le_of_ble_eq_true rfl⟩ hK hP rfl rfl rfl hl.1 rfl (Nat.le_of_ble_eq_true rfl) dX0_digestWithTosses_38 ⟨Nat.zero_le _, Nat.zero_le _⟩ ?_
      refine nv_i2l hx hb dX0_digestWithTosses_41 (by omega) ?_
      refine rd_S (rest := []) ⟨hx, hb, hml, hown, hts⟩ (c_X0_digestWith l (dg_ (dT_ v d_ i) (lN (if vs_th v i then 1 else 0))) (lN (sa_ v i))) g_X0_129 n_X0_digestWith ⟨Nat.le_of_ble_eq_true rfl, Nat.le_of_ble_eq_true rfl⟩ rfl hl.1 rfl (Nat.le_of_ble_eq_true rfl) dX0_digestWithTosses_42 ⟨Nat.zero_le _, Nat.zero_le _⟩ ?_
      refine lv_lstore_n (lv' := [(3, .long (dg_ (dg_ (dT_ v d_ i) (lN (if vs_th v i then 1 else 0))) (lN (sa_ v i)))), (0, .ref (a 0)), (1, .long (d_)), (5, .int (nI (i)))]) hx hb dX0_digestWithTosses_45 rfl hl (by decide) rfl (fun ls hl => ?_)
      refine lv_iinc (v := nI (i + 1)) (lv' := [(5, .int (nI (i + 1))), (3, .long (dg_ (dg_ (dT_ v d_ i) (lN (if vs_th v i then 1 else 0))) (lN (sa_ v i)))), (0, .ref (a 0)), (1, .long (d_))]) hx hb dX0_digestWithTosses_46 hl (k := 3) rfl (nI_add _ _) (by decide) rfl (fun ls hl => ?_)
      refine lv_goto (tgt := 5) hx hb dX0_digestWithTosses_49 (by decide) ?_
      exact ih_5 (i + 1) ls (by omega) (lv_cast (k := [(0, .ref (a 0)), (1, .long (d_)), (3, .long (dg_ (dg_ (dT_ v d_ i) (lN (if vs_th v i then 1 else 0))) (lN (sa_ v i)))), (5, .int (nI (i + 1)))]) (lv_sub hl [2, 3, 1, 0] rfl) (lc_cons rfl (lc_cons rfl (lc_cons (congrArg (fun z : Int64 => ((3 : Nat), Value.long z)) (show (dg_ (dg_ (dT_ v d_ i) (lN (if vs_th v i then 1 else 0))) (lN (sa_ v i)) : Int64) = dT_ v d_ (i + 1) from by rfl)) (lc_cons (congrArg (fun z : Nat => ((5 : Nat), Value.int (nI z))) (show (i + 1 : Nat) = (i + 1) from by first | rfl | omega)) rfl)))))
    · refine lv_lconst (v := lN (1)) hx hb dX0_digestWithTosses_25 (by decide) ?_
      refine lv_goto (tgt := 30) hx hb dX0_digestWithTosses_26 (by decide) ?_
      refine nv_topl (congrArg lN (show (1 : Nat) = if vs_th v i then 1 else 0 from by simp [c_22])) ?_
      refine rd_S (rest := []) ⟨hx, hb, hml, hown, hts⟩ (c_X0_digestWith l (dT_ v d_ i) (lN (if vs_th v i then 1 else 0))) g_X0_129 n_X0_digestWith ⟨Nat.le_of_ble_eq_true rfl, Nat.le_of_ble_eq_true rfl⟩ rfl hl.1 rfl (Nat.le_of_ble_eq_true rfl) dX0_digestWithTosses_30 ⟨Nat.zero_le _, Nat.zero_le _⟩ ?_
      refine lv_lstore_n (lv' := [(3, .long (dg_ (dT_ v d_ i) (lN (if vs_th v i then 1 else 0)))), (0, .ref (a 0)), (1, .long (d_)), (5, .int (nI (i)))]) hx hb dX0_digestWithTosses_33 rfl hl (by decide) rfl (fun ls hl => ?_)
      refine lv_lload_n hx hb dX0_digestWithTosses_34 rfl (lv_at hl 0 rfl) ?_
      refine lv_aload_n hx hb dX0_digestWithTosses_35 rfl (lv_at hl 1 rfl) ?_
      refine lv_iload hx hb dX0_digestWithTosses_36 (lv_at hl 3 rfl) ?_
      refine rd_V (rest := [.long (dg_ (dT_ v d_ i) (lN (if vs_th v i then 1 else 0)))]) ⟨hx, hb, hml, hown, hts⟩ (c_X0_surpriseAt l D κ a v hv (i) (by omega)) g_X0_116 n_X0_surpriseAt ⟨Nat.le_of_ble_eq_true rfl, Nat.le_of_ble_eq_true rfl⟩ hK hP rfl rfl rfl hl.1 rfl (Nat.le_of_ble_eq_true rfl) dX0_digestWithTosses_38 ⟨Nat.zero_le _, Nat.zero_le _⟩ ?_
      refine nv_i2l hx hb dX0_digestWithTosses_41 (by omega) ?_
      refine rd_S (rest := []) ⟨hx, hb, hml, hown, hts⟩ (c_X0_digestWith l (dg_ (dT_ v d_ i) (lN (if vs_th v i then 1 else 0))) (lN (sa_ v i))) g_X0_129 n_X0_digestWith ⟨Nat.le_of_ble_eq_true rfl, Nat.le_of_ble_eq_true rfl⟩ rfl hl.1 rfl (Nat.le_of_ble_eq_true rfl) dX0_digestWithTosses_42 ⟨Nat.zero_le _, Nat.zero_le _⟩ ?_
      refine lv_lstore_n (lv' := [(3, .long (dg_ (dg_ (dT_ v d_ i) (lN (if vs_th v i then 1 else 0))) (lN (sa_ v i)))), (0, .ref (a 0)), (1, .long (d_)), (5, .int (nI (i)))]) hx hb dX0_digestWithTosses_45 rfl hl (by decide) rfl (fun ls hl => ?_)
      refine lv_iinc (v := nI (i + 1)) (lv' := [(5, .int (nI (i + 1))), (3, .long (dg_ (dg_ (dT_ v d_ i) (lN (if vs_th v i then 1 else 0))) (lN (sa_ v i)))), (0, .ref (a 0)), (1, .long (d_))]) hx hb dX0_digestWithTosses_46 hl (k := 3) rfl (nI_add _ _) (by decide) rfl (fun ls hl => ?_)
      refine lv_goto (tgt := 5) hx hb dX0_digestWithTosses_49 (by decide) ?_
      exact ih_5 (i + 1) ls (by omega) (lv_cast (k := [(0, .ref (a 0)), (1, .long (d_)), (3, .long (dg_ (dg_ (dT_ v d_ i) (lN (if vs_th v i then 1 else 0))) (lN (sa_ v i)))), (5, .int (nI (i + 1)))]) (lv_sub hl [2, 3, 1, 0] rfl) (lc_cons rfl (lc_cons rfl (lc_cons (congrArg (fun z : Int64 => ((3 : Nat), Value.long z)) (show (dg_ (dg_ (dT_ v d_ i) (lN (if vs_th v i then 1 else 0))) (lN (sa_ v i)) : Int64) = dT_ v d_ (i + 1) from by rfl)) (lc_cons (congrArg (fun z : Nat => ((5 : Nat), Value.int (nI z))) (show (i + 1 : Nat) = (i + 1) from by first | rfl | omega)) rfl)))))
set_option maxHeartbeats 4000000 in
set_option maxRecDepth 100000 in
theorem c_X0_digest (l : Launch) (D : va_G) (κ : Nat → ClassId) (a : Nat → Nat) (v : VS) (hv : ok_v v) (hw : 0 < vs_t v → 0 < wl_ v (hh_ v) (tt_ v)) : Rd l yX0_digest cX0_digest 3 (some .long) 6 155 (Pw D (kt_ κ) (xw κ a v) [.ref (a 0)]) (.long (di_ v)) := by
  refine rd_intro (own := RX0) (by decide +kernel) rfl (Nat.le_of_ble_eq_true rfl) (fun p e s m args below meth c pc ls hx hb hr hlk d => ret_L hx hb hr hlk d) ?_
  intro p e s m args below meth c ls Qq hx hb hml hown hts hK hP hend hl
  have hl : lv_has ls 3 [(0, .ref (a 0))] := hl
  obtain ⟨hv1, hv2, hv3, hv4, hv5, hv6⟩ := id hv
  have hq1 := hh_le v
  have hq2 := hh_tt v
  have g1 := go_le v
  have g2 := as_le v
  have g3 := dc_le v
  refine lv_ldc2 (own := RX0) (index := 124) (v := lN (1913)) hx hb hown (hts _ q_k_X0_124) dX0_digest_0 ?_
  refine lv_lstore_n (lv' := [(1, .long (lN (1913))), (0, .ref (a 0))]) hx hb dX0_digest_3 rfl hl (by decide) rfl (fun ls hl => ?_)
  refine lv_lload_n hx hb dX0_digest_4 rfl (lv_at hl 0 rfl) ?_
  refine lv_aload_n hx hb dX0_digest_5 rfl (lv_at hl 1 rfl) ?_
  refine rd_V (rest := [.long (lN (1913))]) ⟨hx, hb, hml, hown, hts⟩ (c_X0_coins l D κ a v hv) g_X0_126 n_X0_coins ⟨Nat.le_of_ble_eq_true rfl, Nat.le_of_ble_eq_true rfl⟩ hK hP rfl rfl rfl hl.1 rfl (Nat.le_of_ble_eq_true rfl) dX0_digest_6 ⟨Nat.zero_le _, Nat.zero_le _⟩ ?_
  refine nv_i2l hx hb dX0_digest_9 (by omega) ?_
  refine rd_S (rest := []) ⟨hx, hb, hml, hown, hts⟩ (c_X0_digestWith l (lN (1913)) (lN (vs_c v))) g_X0_129 n_X0_digestWith ⟨Nat.le_of_ble_eq_true rfl, Nat.le_of_ble_eq_true rfl⟩ rfl hl.1 rfl (Nat.le_of_ble_eq_true rfl) dX0_digest_10 ⟨Nat.zero_le _, Nat.zero_le _⟩ ?_
  refine lv_lstore_n (lv' := [(1, .long (dg_ (lN (1913)) (lN (vs_c v)))), (0, .ref (a 0))]) hx hb dX0_digest_13 rfl hl (by decide) rfl (fun ls hl => ?_)
  refine lv_lload_n hx hb dX0_digest_14 rfl (lv_at hl 0 rfl) ?_
  refine lv_aload_n hx hb dX0_digest_15 rfl (lv_at hl 1 rfl) ?_
  refine rd_V (rest := [.long (dg_ (lN (1913)) (lN (vs_c v)))]) ⟨hx, hb, hml, hown, hts⟩ (c_X0_schools l D κ a v hv) g_X0_133 n_X0_schools ⟨Nat.le_of_ble_eq_true rfl, Nat.le_of_ble_eq_true rfl⟩ hK hP rfl rfl rfl hl.1 rfl (Nat.le_of_ble_eq_true rfl) dX0_digest_16 ⟨Nat.zero_le _, Nat.zero_le _⟩ ?_
  refine nv_i2l hx hb dX0_digest_19 (by omega) ?_
  refine rd_S (rest := []) ⟨hx, hb, hml, hown, hts⟩ (c_X0_digestWith l (dg_ (lN (1913)) (lN (vs_c v))) (lN (vs_n v))) g_X0_129 n_X0_digestWith ⟨Nat.le_of_ble_eq_true rfl, Nat.le_of_ble_eq_true rfl⟩ rfl hl.1 rfl (Nat.le_of_ble_eq_true rfl) dX0_digest_20 ⟨Nat.zero_le _, Nat.zero_le _⟩ ?_
  refine lv_lstore_n (lv' := [(1, .long (dg_ (dg_ (lN (1913)) (lN (vs_c v))) (lN (vs_n v)))), (0, .ref (a 0))]) hx hb dX0_digest_23 rfl hl (by decide) rfl (fun ls hl => ?_)
  refine lv_lload_n hx hb dX0_digest_24 rfl (lv_at hl 0 rfl) ?_
  refine lv_aload_n hx hb dX0_digest_25 rfl (lv_at hl 1 rfl) ?_
  refine rd_V (rest := [.long (dg_ (dg_ (lN (1913)) (lN (vs_c v))) (lN (vs_n v)))]) ⟨hx, hb, hml, hown, hts⟩ (c_X0_tosses l D κ a v hv) g_X0_136 n_X0_tosses ⟨Nat.le_of_ble_eq_true rfl, Nat.le_of_ble_eq_true rfl⟩ hK hP rfl rfl rfl hl.1 rfl (Nat.le_of_ble_eq_true rfl) dX0_digest_26 ⟨Nat.zero_le _, Nat.zero_le _⟩ ?_
  refine nv_i2l hx hb dX0_digest_29 (by omega) ?_
  refine rd_S (rest := []) ⟨hx, hb, hml, hown, hts⟩ (c_X0_digestWith l (dg_ (dg_ (lN (1913)) (lN (vs_c v))) (lN (vs_n v))) (lN (vs_t v))) g_X0_129 n_X0_digestWith ⟨Nat.le_of_ble_eq_true rfl, Nat.le_of_ble_eq_true rfl⟩ rfl hl.1 rfl (Nat.le_of_ble_eq_true rfl) dX0_digest_30 ⟨Nat.zero_le _, Nat.zero_le _⟩ ?_
  refine lv_lstore_n (lv' := [(1, .long (dg_ (dg_ (dg_ (lN (1913)) (lN (vs_c v))) (lN (vs_n v))) (lN (vs_t v)))), (0, .ref (a 0))]) hx hb dX0_digest_33 rfl hl (by decide) rfl (fun ls hl => ?_)
  refine lv_lload_n hx hb dX0_digest_34 rfl (lv_at hl 0 rfl) ?_
  refine lv_aload_n hx hb dX0_digest_35 rfl (lv_at hl 1 rfl) ?_
  refine rd_V (rest := [.long (dg_ (dg_ (dg_ (lN (1913)) (lN (vs_c v))) (lN (vs_n v))) (lN (vs_t v)))]) ⟨hx, hb, hml, hown, hts⟩ (c_X0_heads l D κ a v hv) g_X0_139 n_X0_heads ⟨Nat.le_of_ble_eq_true rfl, Nat.le_of_ble_eq_true rfl⟩ hK hP rfl rfl rfl hl.1 rfl (Nat.le_of_ble_eq_true rfl) dX0_digest_36 ⟨Nat.zero_le _, Nat.zero_le _⟩ ?_
  refine nv_i2l hx hb dX0_digest_39 (by omega) ?_
  refine rd_S (rest := []) ⟨hx, hb, hml, hown, hts⟩ (c_X0_digestWith l (dg_ (dg_ (dg_ (lN (1913)) (lN (vs_c v))) (lN (vs_n v))) (lN (vs_t v))) (lN (hh_ v))) g_X0_129 n_X0_digestWith ⟨Nat.le_of_ble_eq_true rfl, Nat.le_of_ble_eq_true rfl⟩ rfl hl.1 rfl (Nat.le_of_ble_eq_true rfl) dX0_digest_40 ⟨Nat.zero_le _, Nat.zero_le _⟩ ?_
  refine lv_lstore_n (lv' := [(1, .long (dg_ (dg_ (dg_ (dg_ (lN (1913)) (lN (vs_c v))) (lN (vs_n v))) (lN (vs_t v))) (lN (hh_ v)))), (0, .ref (a 0))]) hx hb dX0_digest_43 rfl hl (by decide) rfl (fun ls hl => ?_)
  refine lv_lload_n hx hb dX0_digest_44 rfl (lv_at hl 0 rfl) ?_
  refine lv_aload_n hx hb dX0_digest_45 rfl (lv_at hl 1 rfl) ?_
  refine rd_V (rest := [.long (dg_ (dg_ (dg_ (dg_ (lN (1913)) (lN (vs_c v))) (lN (vs_n v))) (lN (vs_t v))) (lN (hh_ v)))]) ⟨hx, hb, hml, hown, hts⟩ (c_X0_wholeWeight l D κ a v hv) g_X0_142 n_X0_wholeWeight ⟨Nat.le_of_ble_eq_true rfl, Nat.le_of_ble_eq_true rfl⟩ hK hP rfl rfl rfl hl.1 rfl (Nat.le_of_ble_eq_true rfl) dX0_digest_46 ⟨Nat.zero_le _, Nat.zero_le _⟩ ?_
  refine rd_S (rest := []) ⟨hx, hb, hml, hown, hts⟩ (c_X0_digestWith l (dg_ (dg_ (dg_ (dg_ (lN (1913)) (lN (vs_c v))) (lN (vs_n v))) (lN (vs_t v))) (lN (hh_ v))) (lN (wl_ v (hh_ v) (tt_ v)))) g_X0_129 n_X0_digestWith ⟨Nat.le_of_ble_eq_true rfl, Nat.le_of_ble_eq_true rfl⟩ rfl hl.1 rfl (Nat.le_of_ble_eq_true rfl) dX0_digest_49 ⟨Nat.zero_le _, Nat.zero_le _⟩ ?_
  refine lv_lstore_n (lv' := [(1, .long (dg_ (dg_ (dg_ (dg_ (dg_ (lN (1913)) (lN (vs_c v))) (lN (vs_n v))) (lN (vs_t v))) (lN (hh_ v))) (lN (wl_ v (hh_ v) (tt_ v))))), (0, .ref (a 0))]) hx hb dX0_digest_52 rfl hl (by decide) rfl (fun ls hl => ?_)
  refine lv_lload_n hx hb dX0_digest_53 rfl (lv_at hl 0 rfl) ?_
  refine lv_aload_n hx hb dX0_digest_54 rfl (lv_at hl 1 rfl) ?_
  refine rd_V (rest := [.long (dg_ (dg_ (dg_ (dg_ (dg_ (lN (1913)) (lN (vs_c v))) (lN (vs_n v))) (lN (vs_t v))) (lN (hh_ v))) (lN (wl_ v (hh_ v) (tt_ v))))]) ⟨hx, hb, hml, hown, hts⟩ (c_X0_ruledOut l D κ a v hv) g_X0_145 n_X0_ruledOut ⟨Nat.le_of_ble_eq_true rfl, Nat.le_of_ble_eq_true rfl⟩ hK hP rfl rfl rfl hl.1 rfl (Nat.le_of_ble_eq_true rfl) dX0_digest_55 ⟨Nat.zero_le _, Nat.zero_le _⟩ ?_
  refine nv_i2l hx hb dX0_digest_58 (by omega) ?_
  refine rd_S (rest := []) ⟨hx, hb, hml, hown, hts⟩ (c_X0_digestWith l (dg_ (dg_ (dg_ (dg_ (dg_ (lN (1913)) (lN (vs_c v))) (lN (vs_n v))) (lN (vs_t v))) (lN (hh_ v))) (lN (wl_ v (hh_ v) (tt_ v)))) (lN (go_ v))) g_X0_129 n_X0_digestWith ⟨Nat.le_of_ble_eq_true rfl, Nat.le_of_ble_eq_true rfl⟩ rfl hl.1 rfl (Nat.le_of_ble_eq_true rfl) dX0_digest_59 ⟨Nat.zero_le _, Nat.zero_le _⟩ ?_
  refine lv_lstore_n (lv' := [(1, .long (dg_ (dg_ (dg_ (dg_ (dg_ (dg_ (lN (1913)) (lN (vs_c v))) (lN (vs_n v))) (lN (vs_t v))) (lN (hh_ v))) (lN (wl_ v (hh_ v) (tt_ v)))) (lN (go_ v)))), (0, .ref (a 0))]) hx hb dX0_digest_62 rfl hl (by decide) rfl (fun ls hl => ?_)
  refine lv_lload_n hx hb dX0_digest_63 rfl (lv_at hl 0 rfl) ?_
  refine lv_aload_n hx hb dX0_digest_64 rfl (lv_at hl 1 rfl) ?_
  refine rd_V (rest := [.long (dg_ (dg_ (dg_ (dg_ (dg_ (dg_ (lN (1913)) (lN (vs_c v))) (lN (vs_n v))) (lN (vs_t v))) (lN (hh_ v))) (lN (wl_ v (hh_ v) (tt_ v)))) (lN (go_ v)))]) ⟨hx, hb, hml, hown, hts⟩ (c_X0_allSurprise l D κ a v hv) g_X0_148 n_X0_allSurprise ⟨Nat.le_of_ble_eq_true rfl, Nat.le_of_ble_eq_true rfl⟩ hK hP rfl rfl rfl hl.1 rfl (Nat.le_of_ble_eq_true rfl) dX0_digest_65 ⟨Nat.zero_le _, Nat.zero_le _⟩ ?_
  refine nv_i2l hx hb dX0_digest_68 (by omega) ?_
  refine rd_S (rest := []) ⟨hx, hb, hml, hown, hts⟩ (c_X0_digestWith l (dg_ (dg_ (dg_ (dg_ (dg_ (dg_ (lN (1913)) (lN (vs_c v))) (lN (vs_n v))) (lN (vs_t v))) (lN (hh_ v))) (lN (wl_ v (hh_ v) (tt_ v)))) (lN (go_ v))) (lN (as_ v))) g_X0_129 n_X0_digestWith ⟨Nat.le_of_ble_eq_true rfl, Nat.le_of_ble_eq_true rfl⟩ rfl hl.1 rfl (Nat.le_of_ble_eq_true rfl) dX0_digest_69 ⟨Nat.zero_le _, Nat.zero_le _⟩ ?_
  refine lv_lstore_n (lv' := [(1, .long (dg_ (dg_ (dg_ (dg_ (dg_ (dg_ (dg_ (lN (1913)) (lN (vs_c v))) (lN (vs_n v))) (lN (vs_t v))) (lN (hh_ v))) (lN (wl_ v (hh_ v) (tt_ v)))) (lN (go_ v))) (lN (as_ v)))), (0, .ref (a 0))]) hx hb dX0_digest_72 rfl hl (by decide) rfl (fun ls hl => ?_)
  refine lv_lload_n hx hb dX0_digest_73 rfl (lv_at hl 0 rfl) ?_
  refine lv_aload_n hx hb dX0_digest_74 rfl (lv_at hl 1 rfl) ?_
  refine rd_V (rest := [.long (dg_ (dg_ (dg_ (dg_ (dg_ (dg_ (dg_ (lN (1913)) (lN (vs_c v))) (lN (vs_n v))) (lN (vs_t v))) (lN (hh_ v))) (lN (wl_ v (hh_ v) (tt_ v)))) (lN (go_ v))) (lN (as_ v)))]) ⟨hx, hb, hml, hown, hts⟩ (c_X0_decisiveTosses l D κ a v hv (hw)) g_X0_151 n_X0_decisiveTosses ⟨Nat.le_of_ble_eq_true rfl, Nat.le_of_ble_eq_true rfl⟩ hK hP rfl rfl rfl hl.1 rfl (Nat.le_of_ble_eq_true rfl) dX0_digest_75 ⟨Nat.zero_le _, Nat.zero_le _⟩ ?_
  refine nv_i2l hx hb dX0_digest_78 (by omega) ?_
  refine rd_S (rest := []) ⟨hx, hb, hml, hown, hts⟩ (c_X0_digestWith l (dg_ (dg_ (dg_ (dg_ (dg_ (dg_ (dg_ (lN (1913)) (lN (vs_c v))) (lN (vs_n v))) (lN (vs_t v))) (lN (hh_ v))) (lN (wl_ v (hh_ v) (tt_ v)))) (lN (go_ v))) (lN (as_ v))) (lN (dc_ v))) g_X0_129 n_X0_digestWith ⟨Nat.le_of_ble_eq_true rfl, Nat.le_of_ble_eq_true rfl⟩ rfl hl.1 rfl (Nat.le_of_ble_eq_true rfl) dX0_digest_79 ⟨Nat.zero_le _, Nat.zero_le _⟩ ?_
  refine lv_lstore_n (lv' := [(1, .long (dg_ (dg_ (dg_ (dg_ (dg_ (dg_ (dg_ (dg_ (lN (1913)) (lN (vs_c v))) (lN (vs_n v))) (lN (vs_t v))) (lN (hh_ v))) (lN (wl_ v (hh_ v) (tt_ v)))) (lN (go_ v))) (lN (as_ v))) (lN (dc_ v)))), (0, .ref (a 0))]) hx hb dX0_digest_82 rfl hl (by decide) rfl (fun ls hl => ?_)
  refine lv_aload_n hx hb dX0_digest_83 rfl (lv_at hl 1 rfl) ?_
  refine lv_lload_n hx hb dX0_digest_84 rfl (lv_at hl 0 rfl) ?_
  refine rd_V (rest := []) ⟨hx, hb, hml, hown, hts⟩ (c_X0_digestWithCoins l D κ a v hv (dg_ (dg_ (dg_ (dg_ (dg_ (dg_ (dg_ (dg_ (lN (1913)) (lN (vs_c v))) (lN (vs_n v))) (lN (vs_t v))) (lN (hh_ v))) (lN (wl_ v (hh_ v) (tt_ v)))) (lN (go_ v))) (lN (as_ v))) (lN (dc_ v)))) g_X0_154 n_X0_digestWithCoins ⟨Nat.le_of_ble_eq_true rfl, Nat.le_of_ble_eq_true rfl⟩ hK hP rfl rfl rfl hl.1 rfl (Nat.le_of_ble_eq_true rfl) dX0_digest_85 ⟨Nat.zero_le _, Nat.zero_le _⟩ ?_
  refine lv_lstore_n (lv' := [(1, .long (dC_ v (dg_ (dg_ (dg_ (dg_ (dg_ (dg_ (dg_ (dg_ (lN (1913)) (lN (vs_c v))) (lN (vs_n v))) (lN (vs_t v))) (lN (hh_ v))) (lN (wl_ v (hh_ v) (tt_ v)))) (lN (go_ v))) (lN (as_ v))) (lN (dc_ v))) (vs_c v))), (0, .ref (a 0))]) hx hb dX0_digest_88 rfl hl (by decide) rfl (fun ls hl => ?_)
  refine lv_aload_n hx hb dX0_digest_89 rfl (lv_at hl 1 rfl) ?_
  refine lv_lload_n hx hb dX0_digest_90 rfl (lv_at hl 0 rfl) ?_
  refine rd_V (rest := []) ⟨hx, hb, hml, hown, hts⟩ (c_X0_digestWithSchools l D κ a v hv (dC_ v (dg_ (dg_ (dg_ (dg_ (dg_ (dg_ (dg_ (dg_ (lN (1913)) (lN (vs_c v))) (lN (vs_n v))) (lN (vs_t v))) (lN (hh_ v))) (lN (wl_ v (hh_ v) (tt_ v)))) (lN (go_ v))) (lN (as_ v))) (lN (dc_ v))) (vs_c v))) g_X0_158 n_X0_digestWithSchools ⟨Nat.le_of_ble_eq_true rfl, Nat.le_of_ble_eq_true rfl⟩ hK hP rfl rfl rfl hl.1 rfl (Nat.le_of_ble_eq_true rfl) dX0_digest_91 ⟨Nat.zero_le _, Nat.zero_le _⟩ ?_
  refine lv_lstore_n (lv' := [(1, .long (dS_ v (dC_ v (dg_ (dg_ (dg_ (dg_ (dg_ (dg_ (dg_ (dg_ (lN (1913)) (lN (vs_c v))) (lN (vs_n v))) (lN (vs_t v))) (lN (hh_ v))) (lN (wl_ v (hh_ v) (tt_ v)))) (lN (go_ v))) (lN (as_ v))) (lN (dc_ v))) (vs_c v)) (vs_n v))), (0, .ref (a 0))]) hx hb dX0_digest_94 rfl hl (by decide) rfl (fun ls hl => ?_)
  refine lv_aload_n hx hb dX0_digest_95 rfl (lv_at hl 1 rfl) ?_
  refine lv_lload_n hx hb dX0_digest_96 rfl (lv_at hl 0 rfl) ?_
  refine rd_V (rest := []) ⟨hx, hb, hml, hown, hts⟩ (c_X0_digestWithTosses l D κ a v hv (dS_ v (dC_ v (dg_ (dg_ (dg_ (dg_ (dg_ (dg_ (dg_ (dg_ (lN (1913)) (lN (vs_c v))) (lN (vs_n v))) (lN (vs_t v))) (lN (hh_ v))) (lN (wl_ v (hh_ v) (tt_ v)))) (lN (go_ v))) (lN (as_ v))) (lN (dc_ v))) (vs_c v)) (vs_n v))) g_X0_161 n_X0_digestWithTosses ⟨Nat.le_of_ble_eq_true rfl, Nat.le_of_ble_eq_true rfl⟩ hK hP rfl rfl rfl hl.1 rfl (Nat.le_of_ble_eq_true rfl) dX0_digest_97 ⟨Nat.zero_le _, Nat.zero_le _⟩ ?_
  refine nv_topl (show (dT_ v (dS_ v (dC_ v (dg_ (dg_ (dg_ (dg_ (dg_ (dg_ (dg_ (dg_ (lN (1913)) (lN (vs_c v))) (lN (vs_n v))) (lN (vs_t v))) (lN (hh_ v))) (lN (wl_ v (hh_ v) (tt_ v)))) (lN (go_ v))) (lN (as_ v))) (lN (dc_ v))) (vs_c v)) (vs_n v)) (vs_t v) : Int64) = di_ v from by rfl) ?_
  exact hend _ _ dX0_digest_100
