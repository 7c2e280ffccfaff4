set_option maxHeartbeats 4000000 in
set_option maxRecDepth 100000 in
theorem c_X0_addCoin (l : Launch) (D : va_G) (κ : Nat → ClassId) (a : Nat → Nat) (v : VS) (hv : ok_v v) (hap : ap_ a 9) (t_ : Nat) (ht : t_ ≤ 10) (hc8 : vs_c v < 8) (h0 : vs_t v = 0) : Wr l yX0_addCoin cX0_addCoin 2 (some .int) 1 20 (Pw D (kt_ κ) (xw κ a v) [.ref (a 0), .int (nI (t_))]) D (xw κ a (nx_addCoin v t_)) (xa_ a) (some (.int (nI (vs_c v)))) := by
  refine wr_intro (own := RX0) (by decide +kernel) rfl (Nat.le_of_ble_eq_true rfl) (fun p e s m args below meth c pc ls H locs hx hb hr hlk d h1 h2 => rew_I hx hb hr hlk d h1 h2) ?_
  intro p e s m args below meth c ls Qq hx hb hml hown hts hK hP hS hend hl
  have hl : lv_has ls 2 [(0, .ref (a 0)), (1, .int (nI (t_)))] := hl
  obtain ⟨hv1, hv2, hv3, hv4, hv5, hv6⟩ := id hv
  have hP : va_P D vwCl (xw κ a ((vs_c v, vs_n v, vs_t v), vs_ct v, vs_so v, vs_sh v, vs_th v)) s.heap := hP
  refine lv_iload_n hx hb dX0_addCoin_0 rfl (lv_at hl 1 rfl) ?_
  refine nv_if_lt (tgt := 10) hx hb dX0_addCoin_1 (by decide) (by omega) ?_
  refine lv_iload_n hx hb dX0_addCoin_4 rfl (lv_at hl 1 rfl) ?_
  refine lv_bipush (v := nI (10)) hx hb dX0_addCoin_5 (by decide) ?_
  refine nv_icmp_le (tgt := 20) hx hb dX0_addCoin_7 (by decide) (by omega) (by omega) (fun c_7 => ?_) (fun z => absurd z (by omega))
  refine lv_aload_n hx hb dX0_addCoin_20 rfl (lv_at hl 0 rfl) ?_
  refine va_get (D := D) (ci := 0) (v := .int (nI (vs_c v))) (C := RX0) (T := TX0) (N := 7) hx hb hts i_X0 hown hK hP 0 rfl rfl 4 (by decide) (hts _ q_f_X0_25) (fun _ h9 => h9) rfl dX0_addCoin_21 ?_
  refine lv_bipush (v := nI (8)) hx hb dX0_addCoin_24 (by decide) ?_
  refine nv_icmp_lt (tgt := 39) hx hb dX0_addCoin_26 (by decide) (by omega) (by omega) (fun c_26 => ?_) (fun z => absurd z (by omega))
  refine lv_aload_n hx hb dX0_addCoin_39 rfl (lv_at hl 0 rfl) ?_
  refine rd_VN (rest := []) ⟨hx, hb, hml, hown, hts⟩ (c_X0_needNoTosses l D κ a v hv (by omega)) g_X0_47 n_X0_needNoTosses ⟨Nat.le_of_ble_eq_true rfl, Nat.le_of_ble_eq_true rfl⟩ hK hP rfl rfl rfl hl.1 rfl (Nat.le_of_ble_eq_true rfl) dX0_addCoin_40 ⟨Nat.zero_le _, Nat.zero_le _⟩ ?_
  refine lv_aload_n hx hb dX0_addCoin_43 rfl (lv_at hl 0 rfl) ?_
  refine va_get (D := D) (ci := 0) (v := .ref (a 1)) (C := RX0) (T := TX0) (N := 7) hx hb hts i_X0 hown hK hP 0 rfl rfl 0 (by decide) (hts _ q_f_X0_9) (fun _ h9 => h9) rfl dX0_addCoin_44 ?_
  refine lv_aload_n hx hb dX0_addCoin_47 rfl (lv_at hl 0 rfl) ?_
  refine va_get (D := D) (ci := 0) (v := .int (nI (vs_c v))) (C := RX0) (T := TX0) (N := 7) hx hb hts i_X0 hown hK hP 0 rfl rfl 4 (by decide) (hts _ q_f_X0_25) (fun _ h9 => h9) rfl dX0_addCoin_48 ?_
  refine lv_iload_n hx hb dX0_addCoin_51 rfl (lv_at hl 1 rfl) ?_
  refine nv_iast hx hb hK hP (xw_D hap κ _) hS 1 0 (n := 8) (j := vs_c v) rfl rfl (by omega) (by decide) xs_ct dX0_addCoin_52 (fun H locs hP hS => ?_)
  have hP : va_P D vwCl (xw κ a ((vs_c v, vs_n v, vs_t v), upN (vs_ct v) (vs_c v) t_, vs_so v, vs_sh v, vs_th v)) H := hP
  refine lv_aload_n hx hb dX0_addCoin_53 rfl (lv_at hl 0 rfl) ?_
  refine lv_dup hx hb dX0_addCoin_54 rfl ?_
  refine va_get (D := D) (ci := 0) (v := .int (nI (vs_c v))) (C := RX0) (T := TX0) (N := 7) hx hb hts i_X0 hown hK hP 0 rfl rfl 4 (by decide) (hts _ q_f_X0_25) (fun _ h9 => h9) rfl dX0_addCoin_55 ?_
  refine lv_iconst (v := nI (1)) hx hb dX0_addCoin_58 (by decide) ?_
  refine nv_iadd hx hb dX0_addCoin_59 rfl ?_
  refine va_put (D := D) (ci := 0) (v := .int (nI ((vs_c v) + 1))) (ty := .int) (C := RX0) (T := TX0) (N := 7) hx hb hts i_X0 tyX0 tyX0_ok nmX0 hown hK hP (xw_D hap κ _) hS 0 rfl rfl 4 (by decide) (hts _ q_f_X0_25) (fun _ h9 => h9) rfl (by decide +kernel) rfl rfl (Nat.le_of_ble_eq_true rfl) dX0_addCoin_60 (fun H locs hP _ hS => ?_)
  have hP : va_P D vwCl (xw κ a (((vs_c v) + 1, vs_n v, vs_t v), upN (vs_ct v) (vs_c v) t_, vs_so v, vs_sh v, vs_th v)) H := hP
  refine lv_aload_n hx hb dX0_addCoin_63 rfl (lv_at hl 0 rfl) ?_
  refine va_get (D := D) (ci := 0) (v := .int (nI ((vs_c v) + 1))) (C := RX0) (T := TX0) (N := 7) hx hb hts i_X0 hown hK hP 0 rfl rfl 4 (by decide) (hts _ q_f_X0_25) (fun _ h9 => h9) rfl dX0_addCoin_64 ?_
  refine lv_iconst (v := nI (1)) hx hb dX0_addCoin_67 (by decide) ?_
  refine nv_isub (r := ((vs_c v) + 1) - 1) hx hb dX0_addCoin_68 (by omega) ?_
  refine nv_topi (congrArg nI (show (((vs_c v) + 1) - 1 : Nat) = vs_c v from by first | rfl | omega)) ?_
  exact hend _ _ _ _ dX0_addCoin_69 hP hS
set_option maxHeartbeats 4000000 in
set_option maxRecDepth 100000 in
theorem c_X0_addSchool (l : Launch) (D : va_G) (κ : Nat → ClassId) (a : Nat → Nat) (v : VS) (hv : ok_v v) (hap : ap_ a 9) (t_ : Nat) (ht0 : 1 ≤ t_) (ht : t_ ≤ 9) (hc8 : vs_n v < 4) (h0 : vs_t v = 0) : Wr l yX0_addSchool cX0_addSchool 2 (some .int) 1 20 (Pw D (kt_ κ) (xw κ a v) [.ref (a 0), .int (nI (t_))]) D (xw κ a (nx_addSchool v t_)) (xa_ a) (some (.int (nI (vs_n v)))) := by
  refine wr_intro (own := RX0) (by decide +kernel) rfl (Nat.le_of_ble_eq_true rfl) (fun p e s m args below meth c pc ls H locs hx hb hr hlk d h1 h2 => rew_I hx hb hr hlk d h1 h2) ?_
  intro p e s m args below meth c ls Qq hx hb hml hown hts hK hP hS hend hl
  have hl : lv_has ls 2 [(0, .ref (a 0)), (1, .int (nI (t_)))] := hl
  obtain ⟨hv1, hv2, hv3, hv4, hv5, hv6⟩ := id hv
  have hP : va_P D vwCl (xw κ a ((vs_c v, vs_n v, vs_t v), vs_ct v, vs_so v, vs_sh v, vs_th v)) s.heap := hP
  refine lv_iload_n hx hb dX0_addSchool_0 rfl (lv_at hl 1 rfl) ?_
  refine lv_iconst (v := nI (1)) hx hb dX0_addSchool_1 (by decide) ?_
  refine nv_icmp_lt (tgt := 11) hx hb dX0_addSchool_2 (by decide) (by omega) (by omega) (fun z => absurd z (by omega)) (fun c_2 => ?_)
  refine lv_iload_n hx hb dX0_addSchool_5 rfl (lv_at hl 1 rfl) ?_
  refine lv_bipush (v := nI (9)) hx hb dX0_addSchool_6 (by decide) ?_
  refine nv_icmp_le (tgt := 21) hx hb dX0_addSchool_8 (by decide) (by omega) (by omega) (fun c_8 => ?_) (fun z => absurd z (by omega))
  refine lv_aload_n hx hb dX0_addSchool_21 rfl (lv_at hl 0 rfl) ?_
  refine va_get (D := D) (ci := 0) (v := .int (nI (vs_n v))) (C := RX0) (T := TX0) (N := 7) hx hb hts i_X0 hown hK hP 0 rfl rfl 5 (by decide) (hts _ q_f_X0_29) (fun _ h9 => h9) rfl dX0_addSchool_22 ?_
  refine lv_iconst (v := nI (4)) hx hb dX0_addSchool_25 (by decide) ?_
  refine nv_icmp_lt (tgt := 39) hx hb dX0_addSchool_26 (by decide) (by omega) (by omega) (fun c_26 => ?_) (fun z => absurd z (by omega))
  refine lv_aload_n hx hb dX0_addSchool_39 rfl (lv_at hl 0 rfl) ?_
  refine rd_VN (rest := []) ⟨hx, hb, hml, hown, hts⟩ (c_X0_needNoTosses l D κ a v hv (by omega)) g_X0_47 n_X0_needNoTosses ⟨Nat.le_of_ble_eq_true rfl, Nat.le_of_ble_eq_true rfl⟩ hK hP rfl rfl rfl hl.1 rfl (Nat.le_of_ble_eq_true rfl) dX0_addSchool_40 ⟨Nat.zero_le _, Nat.zero_le _⟩ ?_
  refine lv_aload_n hx hb dX0_addSchool_43 rfl (lv_at hl 0 rfl) ?_
  refine va_get (D := D) (ci := 0) (v := .ref (a 2)) (C := RX0) (T := TX0) (N := 7) hx hb hts i_X0 hown hK hP 0 rfl rfl 1 (by decide) (hts _ q_f_X0_13) (fun _ h9 => h9) rfl dX0_addSchool_44 ?_
  refine lv_aload_n hx hb dX0_addSchool_47 rfl (lv_at hl 0 rfl) ?_
  refine va_get (D := D) (ci := 0) (v := .int (nI (vs_n v))) (C := RX0) (T := TX0) (N := 7) hx hb hts i_X0 hown hK hP 0 rfl rfl 5 (by decide) (hts _ q_f_X0_29) (fun _ h9 => h9) rfl dX0_addSchool_48 ?_
  refine lv_iload_n hx hb dX0_addSchool_51 rfl (lv_at hl 1 rfl) ?_
  refine nv_iast hx hb hK hP (xw_D hap κ _) hS 2 0 (n := 4) (j := vs_n v) rfl rfl (by omega) (by decide) xs_so dX0_addSchool_52 (fun H locs hP hS => ?_)
  have hP : va_P D vwCl (xw κ a ((vs_c v, vs_n v, vs_t v), vs_ct v, upN (vs_so v) (vs_n v) t_, vs_sh v, vs_th v)) H := hP
  refine lv_aload_n hx hb dX0_addSchool_53 rfl (lv_at hl 0 rfl) ?_
  refine lv_dup hx hb dX0_addSchool_54 rfl ?_
  refine va_get (D := D) (ci := 0) (v := .int (nI (vs_n v))) (C := RX0) (T := TX0) (N := 7) hx hb hts i_X0 hown hK hP 0 rfl rfl 5 (by decide) (hts _ q_f_X0_29) (fun _ h9 => h9) rfl dX0_addSchool_55 ?_
  refine lv_iconst (v := nI (1)) hx hb dX0_addSchool_58 (by decide) ?_
  refine nv_iadd hx hb dX0_addSchool_59 rfl ?_
  refine va_put (D := D) (ci := 0) (v := .int (nI ((vs_n v) + 1))) (ty := .int) (C := RX0) (T := TX0) (N := 7) hx hb hts i_X0 tyX0 tyX0_ok nmX0 hown hK hP (xw_D hap κ _) hS 0 rfl rfl 5 (by decide) (hts _ q_f_X0_29) (fun _ h9 => h9) rfl (by decide +kernel) rfl rfl (Nat.le_of_ble_eq_true rfl) dX0_addSchool_60 (fun H locs hP _ hS => ?_)
  have hP : va_P D vwCl (xw κ a ((vs_c v, (vs_n v) + 1, vs_t v), vs_ct v, upN (vs_so v) (vs_n v) t_, vs_sh v, vs_th v)) H := hP
  refine lv_aload_n hx hb dX0_addSchool_63 rfl (lv_at hl 0 rfl) ?_
  refine va_get (D := D) (ci := 0) (v := .int (nI ((vs_n v) + 1))) (C := RX0) (T := TX0) (N := 7) hx hb hts i_X0 hown hK hP 0 rfl rfl 5 (by decide) (hts _ q_f_X0_29) (fun _ h9 => h9) rfl dX0_addSchool_64 ?_
  refine lv_iconst (v := nI (1)) hx hb dX0_addSchool_67 (by decide) ?_
  refine nv_isub (r := ((vs_n v) + 1) - 1) hx hb dX0_addSchool_68 (by omega) ?_
  refine nv_topi (congrArg nI (show (((vs_n v) + 1) - 1 : Nat) = vs_n v from by first | rfl | omega)) ?_
  exact hend _ _ _ _ dX0_addSchool_69 hP hS
set_option maxHeartbeats 4000000 in
set_option maxRecDepth 100000 in
theorem c_X0_setShare (l : Launch) (D : va_G) (κ : Nat → ClassId) (a : Nat → Nat) (v : VS) (hv : ok_v v) (hap : ap_ a 9) (s_ : Nat) (c_ : Nat) (x_ : Nat) (hs : s_ < vs_n v) (hc : c_ < vs_c v) (hx9 : x_ ≤ 9) (h0 : vs_t v = 0) : Wr l yX0_setShare cX0_setShare 5 (some .int) 1 21 (Pw D (kt_ κ) (xw κ a v) [.ref (a 0), .int (nI (s_)), .int (nI (c_)), .int (nI (x_))]) D (xw κ a (nx_setShare v s_ c_ x_)) (xa_ a) (some (.int (nI (vs_sh v s_ c_)))) := by
  refine wr_intro (own := RX0) (by decide +kernel) rfl (Nat.le_of_ble_eq_true rfl) (fun p e s m args below meth c pc ls H locs hx hb hr hlk d h1 h2 => rew_I hx hb hr hlk d h1 h2) ?_
  intro p e s m args below meth c ls Qq hx hb hml hown hts hK hP hS hend hl
  have hl : lv_has ls 5 [(0, .ref (a 0)), (1, .int (nI (s_))), (2, .int (nI (c_))), (3, .int (nI (x_)))] := hl
  obtain ⟨hv1, hv2, hv3, hv4, hv5, hv6⟩ := id hv
  have hP : va_P D vwCl (xw κ a ((vs_c v, vs_n v, vs_t v), vs_ct v, vs_so v, vs_sh v, vs_th v)) s.heap := hP
  refine lv_aload_n hx hb dX0_setShare_0 rfl (lv_at hl 0 rfl) ?_
  refine lv_iload_n hx hb dX0_setShare_1 rfl (lv_at hl 1 rfl) ?_
  refine rd_VN (rest := []) ⟨hx, hb, hml, hown, hts⟩ (c_X0_needSchool l D κ a v hv (s_) (by omega)) g_X0_54 n_X0_needSchool ⟨Nat.le_of_ble_eq_true rfl, Nat.le_of_ble_eq_true rfl⟩ hK hP rfl rfl rfl hl.1 rfl (Nat.le_of_ble_eq_true rfl) dX0_setShare_2 ⟨Nat.zero_le _, Nat.zero_le _⟩ ?_
  refine lv_aload_n hx hb dX0_setShare_5 rfl (lv_at hl 0 rfl) ?_
  refine lv_iload_n hx hb dX0_setShare_6 rfl (lv_at hl 2 rfl) ?_
  refine rd_VN (rest := []) ⟨hx, hb, hml, hown, hts⟩ (c_X0_needCoin l D κ a v hv (c_) (by omega)) g_X0_58 n_X0_needCoin ⟨Nat.le_of_ble_eq_true rfl, Nat.le_of_ble_eq_true rfl⟩ hK hP rfl rfl rfl hl.1 rfl (Nat.le_of_ble_eq_true rfl) dX0_setShare_7 ⟨Nat.zero_le _, Nat.zero_le _⟩ ?_
  refine lv_iload_n hx hb dX0_setShare_10 rfl (lv_at hl 3 rfl) ?_
  refine nv_if_lt (tgt := 20) hx hb dX0_setShare_11 (by decide) (by omega) ?_
  refine lv_iload_n hx hb dX0_setShare_14 rfl (lv_at hl 3 rfl) ?_
  refine lv_bipush (v := nI (9)) hx hb dX0_setShare_15 (by decide) ?_
  refine nv_icmp_le (tgt := 30) hx hb dX0_setShare_17 (by decide) (by omega) (by omega) (fun c_17 => ?_) (fun z => absurd z (by omega))
  refine lv_aload_n hx hb dX0_setShare_30 rfl (lv_at hl 0 rfl) ?_
  refine rd_VN (rest := []) ⟨hx, hb, hml, hown, hts⟩ (c_X0_needNoTosses l D κ a v hv (by omega)) g_X0_47 n_X0_needNoTosses ⟨Nat.le_of_ble_eq_true rfl, Nat.le_of_ble_eq_true rfl⟩ hK hP rfl rfl rfl hl.1 rfl (Nat.le_of_ble_eq_true rfl) dX0_setShare_31 ⟨Nat.zero_le _, Nat.zero_le _⟩ ?_
  refine lv_aload_n hx hb dX0_setShare_34 rfl (lv_at hl 0 rfl) ?_
  refine va_get (D := D) (ci := 0) (v := .ref (a 3)) (C := RX0) (T := TX0) (N := 7) hx hb hts i_X0 hown hK hP 0 rfl rfl 2 (by decide) (hts _ q_f_X0_18) (fun _ h9 => h9) rfl dX0_setShare_35 ?_
  refine lv_iload_n hx hb dX0_setShare_38 rfl (lv_at hl 1 rfl) ?_
  refine nv_aald hx hb hK hP 3 1 (r := a (5 + s_)) rfl rfl (by omega) (by decide) (xw_ref (by omega)) dX0_setShare_39 ?_
  refine lv_iload_n hx hb dX0_setShare_40 rfl (lv_at hl 2 rfl) ?_
  refine nv_iald hx hb hK hP (5 + s_) 0 (n := 8) (v := nI (vs_sh v s_ c_)) (xw_row (by omega)) rfl (by omega) (by decide) rfl dX0_setShare_41 ?_
  refine lv_istore (lv' := [(4, .int (nI (vs_sh v s_ c_))), (0, .ref (a 0)), (1, .int (nI (s_))), (2, .int (nI (c_))), (3, .int (nI (x_)))]) hx hb dX0_setShare_42 hl (by decide) rfl (fun ls hl => ?_)
  refine lv_aload_n hx hb dX0_setShare_44 rfl (lv_at hl 1 rfl) ?_
  refine va_get (D := D) (ci := 0) (v := .ref (a 3)) (C := RX0) (T := TX0) (N := 7) hx hb hts i_X0 hown hK hP 0 rfl rfl 2 (by decide) (hts _ q_f_X0_18) (fun _ h9 => h9) rfl dX0_setShare_45 ?_
  refine lv_iload_n hx hb dX0_setShare_48 rfl (lv_at hl 2 rfl) ?_
  refine nv_aald hx hb hK hP 3 1 (r := a (5 + s_)) rfl rfl (by omega) (by decide) (xw_ref (by omega)) dX0_setShare_49 ?_
  refine lv_iload_n hx hb dX0_setShare_50 rfl (lv_at hl 3 rfl) ?_
  refine lv_iload_n hx hb dX0_setShare_51 rfl (lv_at hl 4 rfl) ?_
  refine nv_iast hx hb hK hP (xw_D hap κ _) hS (5 + s_) 0 (n := 8) (j := c_) (xw_row (by omega)) rfl (by omega) (by decide) (xs_sh (by omega)) dX0_setShare_52 (fun H locs hP hS => ?_)
  have hP : va_P D vwCl (xw κ a ((vs_c v, vs_n v, vs_t v), vs_ct v, vs_so v, up2 (vs_sh v) s_ c_ x_, vs_th v)) H := hP
  refine lv_iload hx hb dX0_setShare_53 (lv_at hl 0 rfl) ?_
  exact hend _ _ _ _ dX0_setShare_55 hP hS
set_option maxHeartbeats 4000000 in
set_option maxRecDepth 100000 in
theorem c_X0_toss (l : Launch) (D : va_G) (κ : Nat → ClassId) (a : Nat → Nat) (v : VS) (hv : ok_v v) (hap : ap_ a 9) (h_ : Bool) (ht12 : vs_t v < 12) (hp : 0 < ch_ v h_ (hh_ v) (tt_ v)) : Wr l yX0_toss cX0_toss 3 (some .int) 4 108 (Pw D (kt_ κ) (xw κ a v) [.ref (a 0), .int (bI (h_))]) D (xw κ a (nx_toss v h_)) (xa_ a) (some (.int (nI (su_ v h_ (hh_ v) (tt_ v))))) := by
  refine wr_intro (own := RX0) (by decide +kernel) rfl (Nat.le_of_ble_eq_true rfl) (fun p e s m args below meth c pc ls H locs hx hb hr hlk d h1 h2 => rew_I hx hb hr hlk d h1 h2) ?_
  intro p e s m args below meth c ls Qq hx hb hml hown hts hK hP hS hend hl
  have hl : lv_has ls 3 [(0, .ref (a 0)), (1, .int (bI (h_)))] := hl
  obtain ⟨hv1, hv2, hv3, hv4, hv5, hv6⟩ := id hv
  have hP : va_P D vwCl (xw κ a ((vs_c v, vs_n v, vs_t v), vs_ct v, vs_so v, vs_sh v, vs_th v)) s.heap := hP
  have hq1 := hh_le v
  have hq2 := hh_tt v
  refine lv_aload_n hx hb dX0_toss_0 rfl (lv_at hl 0 rfl) ?_
  refine va_get (D := D) (ci := 0) (v := .int (nI (vs_t v))) (C := RX0) (T := TX0) (N := 7) hx hb hts i_X0 hown hK hP 0 rfl rfl 6 (by decide) (hts _ q_f_X0_32) (fun _ h9 => h9) rfl dX0_toss_1 ?_
  refine lv_bipush (v := nI (12)) hx hb dX0_toss_4 (by decide) ?_
  refine nv_icmp_lt (tgt := 19) hx hb dX0_toss_6 (by decide) (by omega) (by omega) (fun c_6 => ?_) (fun z => absurd z (by omega))
  refine lv_aload_n hx hb dX0_toss_19 rfl (lv_at hl 0 rfl) ?_
  refine lv_iload_n hx hb dX0_toss_20 rfl (lv_at hl 1 rfl) ?_
  refine rd_VN (rest := []) ⟨hx, hb, hml, hown, hts⟩ (c_X0_needPossible l D κ a v hv (h_) (hp)) g_X0_65 n_X0_needPossible ⟨Nat.le_of_ble_eq_true rfl, Nat.le_of_ble_eq_true rfl⟩ hK hP rfl rfl rfl hl.1 rfl (Nat.le_of_ble_eq_true rfl) dX0_toss_21 ⟨Nat.zero_le _, Nat.zero_le _⟩ ?_
  refine lv_aload_n hx hb dX0_toss_24 rfl (lv_at hl 0 rfl) ?_
  refine lv_iload_n hx hb dX0_toss_25 rfl (lv_at hl 1 rfl) ?_
  refine lv_aload_n hx hb dX0_toss_26 rfl (lv_at hl 0 rfl) ?_
  refine rd_V (rest := [.int (bI (h_)), .ref (a 0)]) ⟨hx, hb, hml, hown, hts⟩ (c_X0_headsNow l D κ a v hv) g_X0_69 n_X0_headsNow ⟨Nat.le_of_ble_eq_true rfl, Nat.le_of_ble_eq_true rfl⟩ hK hP rfl rfl rfl hl.1 rfl (Nat.le_of_ble_eq_true rfl) dX0_toss_27 ⟨Nat.zero_le _, Nat.zero_le _⟩ ?_
  refine lv_aload_n hx hb dX0_toss_30 rfl (lv_at hl 0 rfl) ?_
  refine rd_V (rest := [.int (nI (hh_ v)), .int (bI (h_)), .ref (a 0)]) ⟨hx, hb, hml, hown, hts⟩ (c_X0_tailsNow l D κ a v hv) g_X0_73 n_X0_tailsNow ⟨Nat.le_of_ble_eq_true rfl, Nat.le_of_ble_eq_true rfl⟩ hK hP rfl rfl rfl hl.1 rfl (Nat.le_of_ble_eq_true rfl) dX0_toss_31 ⟨Nat.zero_le _, Nat.zero_le _⟩ ?_
  refine rd_V (rest := []) ⟨hx, hb, hml, hown, hts⟩ (c_X0_surpriseBehind l D κ a v hv (h_) (hh_ v) (tt_ v) (by omega)) g_X0_76 n_X0_surpriseBehind ⟨Nat.le_of_ble_eq_true rfl, Nat.le_of_ble_eq_true rfl⟩ hK hP rfl rfl rfl hl.1 rfl (Nat.le_of_ble_eq_true rfl) dX0_toss_34 ⟨Nat.zero_le _, Nat.zero_le _⟩ ?_
  refine lv_istore_n (lv' := [(2, .int (nI (su_ v h_ (hh_ v) (tt_ v)))), (0, .ref (a 0)), (1, .int (bI (h_)))]) hx hb dX0_toss_37 rfl hl (by decide) rfl (fun ls hl => ?_)
  refine lv_aload_n hx hb dX0_toss_38 rfl (lv_at hl 1 rfl) ?_
  refine va_get (D := D) (ci := 0) (v := .ref (a 4)) (C := RX0) (T := TX0) (N := 7) hx hb hts i_X0 hown hK hP 0 rfl rfl 3 (by decide) (hts _ q_f_X0_21) (fun _ h9 => h9) rfl dX0_toss_39 ?_
  refine lv_aload_n hx hb dX0_toss_42 rfl (lv_at hl 1 rfl) ?_
  refine va_get (D := D) (ci := 0) (v := .int (nI (vs_t v))) (C := RX0) (T := TX0) (N := 7) hx hb hts i_X0 hown hK hP 0 rfl rfl 6 (by decide) (hts _ q_f_X0_32) (fun _ h9 => h9) rfl dX0_toss_43 ?_
  refine lv_iload_n hx hb dX0_toss_46 rfl (lv_at hl 2 rfl) ?_
  refine nv_zast hx hb hK hP (xw_D hap κ _) hS 4 2 (n := 12) (j := vs_t v) rfl rfl (by omega) (by decide) xs_th dX0_toss_47 (fun H locs hP hS => ?_)
  have hP : va_P D vwCl (xw κ a ((vs_c v, vs_n v, vs_t v), vs_ct v, vs_so v, vs_sh v, upB (vs_th v) (vs_t v) h_)) H := hP
  refine lv_aload_n hx hb dX0_toss_48 rfl (lv_at hl 1 rfl) ?_
  refine lv_dup hx hb dX0_toss_49 rfl ?_
  refine va_get (D := D) (ci := 0) (v := .int (nI (vs_t v))) (C := RX0) (T := TX0) (N := 7) hx hb hts i_X0 hown hK hP 0 rfl rfl 6 (by decide) (hts _ q_f_X0_32) (fun _ h9 => h9) rfl dX0_toss_50 ?_
  refine lv_iconst (v := nI (1)) hx hb dX0_toss_53 (by decide) ?_
  refine nv_iadd hx hb dX0_toss_54 rfl ?_
  refine va_put (D := D) (ci := 0) (v := .int (nI ((vs_t v) + 1))) (ty := .int) (C := RX0) (T := TX0) (N := 7) hx hb hts i_X0 tyX0 tyX0_ok nmX0 hown hK hP (xw_D hap κ _) hS 0 rfl rfl 6 (by decide) (hts _ q_f_X0_32) (fun _ h9 => h9) rfl (by decide +kernel) rfl rfl (Nat.le_of_ble_eq_true rfl) dX0_toss_55 (fun H locs hP _ hS => ?_)
  have hP : va_P D vwCl (xw κ a ((vs_c v, vs_n v, (vs_t v) + 1), vs_ct v, vs_so v, vs_sh v, upB (vs_th v) (vs_t v) h_)) H := hP
  refine lv_iload_n hx hb dX0_toss_58 rfl (lv_at hl 0 rfl) ?_
  exact hend _ _ _ _ dX0_toss_59 hP hS
set_option maxHeartbeats 4000000 in
set_option maxRecDepth 100000 in
theorem c_X0_undo (l : Launch) (D : va_G) (κ : Nat → ClassId) (a : Nat → Nat) (v : VS) (hv : ok_v v) (hap : ap_ a 9) (h0 : 0 < vs_t v) : Wr l yX0_undo cX0_undo 1 (some .boolean) 0 0 (Pw D (kt_ κ) (xw κ a v) [.ref (a 0)]) D (xw κ a (nx_undo v)) (xa_ a) (some (.int (bI (vs_th v (vs_t v - 1))))) := by
  refine wr_intro (own := RX0) (by decide +kernel) rfl (Nat.le_of_ble_eq_true rfl) (fun p e s m args below meth c pc ls H locs hx hb hr hlk d h1 h2 => rew_Z hx hb hr hlk d h1 h2) ?_
  intro p e s m args below meth c ls Qq hx hb hml hown hts hK hP hS hend hl
  have hl : lv_has ls 1 [(0, .ref (a 0))] := hl
  obtain ⟨hv1, hv2, hv3, hv4, hv5, hv6⟩ := id hv
  have hP : va_P D vwCl (xw κ a ((vs_c v, vs_n v, vs_t v), vs_ct v, vs_so v, vs_sh v, vs_th v)) s.heap := hP
  refine lv_aload_n hx hb dX0_undo_0 rfl (lv_at hl 0 rfl) ?_
  refine va_get (D := D) (ci := 0) (v := .int (nI (vs_t v))) (C := RX0) (T := TX0) (N := 7) hx hb hts i_X0 hown hK hP 0 rfl rfl 6 (by decide) (hts _ q_f_X0_32) (fun _ h9 => h9) rfl dX0_undo_1 ?_
  refine nv_if_gt (tgt := 17) hx hb dX0_undo_4 (by decide) (by omega) (fun c_4 => ?_) (fun z => absurd z (by omega))
  refine lv_aload_n hx hb dX0_undo_17 rfl (lv_at hl 0 rfl) ?_
  refine lv_dup hx hb dX0_undo_18 rfl ?_
  refine va_get (D := D) (ci := 0) (v := .int (nI (vs_t v))) (C := RX0) (T := TX0) (N := 7) hx hb hts i_X0 hown hK hP 0 rfl rfl 6 (by decide) (hts _ q_f_X0_32) (fun _ h9 => h9) rfl dX0_undo_19 ?_
  refine lv_iconst (v := nI (1)) hx hb dX0_undo_22 (by decide) ?_
  refine nv_isub (r := (vs_t v) - 1) hx hb dX0_undo_23 (by omega) ?_
  refine va_put (D := D) (ci := 0) (v := .int (nI ((vs_t v) - 1))) (ty := .int) (C := RX0) (T := TX0) (N := 7) hx hb hts i_X0 tyX0 tyX0_ok nmX0 hown hK hP (xw_D hap κ _) hS 0 rfl rfl 6 (by decide) (hts _ q_f_X0_32) (fun _ h9 => h9) rfl (by decide +kernel) rfl rfl (Nat.le_of_ble_eq_true rfl) dX0_undo_24 (fun H locs hP _ hS => ?_)
  have hP : va_P D vwCl (xw κ a ((vs_c v, vs_n v, (vs_t v) - 1), vs_ct v, vs_so v, vs_sh v, vs_th v)) H := hP
  refine lv_aload_n hx hb dX0_undo_27 rfl (lv_at hl 0 rfl) ?_
  refine va_get (D := D) (ci := 0) (v := .ref (a 4)) (C := RX0) (T := TX0) (N := 7) hx hb hts i_X0 hown hK hP 0 rfl rfl 3 (by decide) (hts _ q_f_X0_21) (fun _ h9 => h9) rfl dX0_undo_28 ?_
  refine lv_aload_n hx hb dX0_undo_31 rfl (lv_at hl 0 rfl) ?_
  refine va_get (D := D) (ci := 0) (v := .int (nI ((vs_t v) - 1))) (C := RX0) (T := TX0) (N := 7) hx hb hts i_X0 hown hK hP 0 rfl rfl 6 (by decide) (hts _ q_f_X0_32) (fun _ h9 => h9) rfl dX0_undo_32 ?_
  refine nv_zald hx hb hK hP 4 2 (n := 12) (v := bI (vs_th v ((vs_t v) - 1))) rfl rfl (by omega) (by decide) rfl dX0_undo_35 ?_
  refine nv_topi (congrArg bI (show (vs_th v ((vs_t v) - 1) : Bool) = vs_th v (vs_t v - 1) from by first | rfl | omega)) ?_
  exact hend _ _ _ _ dX0_undo_36 hP hS
set_option maxHeartbeats 4000000 in
set_option maxRecDepth 100000 in
theorem c_X0_strike (l : Launch) (D : va_G) (κ : Nat → ClassId) (a : Nat → Nat) (v : VS) (hv : ok_v v) (hap : ap_ a 9) (k_ : Nat) (hk : k_ < vs_t v) : Wr l yX0_strike cX0_strike 3 (some .int) 1 21 (Pw D (kt_ κ) (xw κ a v) [.ref (a 0), .int (nI (k_))]) D (xw κ a (nx_strike v k_)) (xa_ a) (some (.int (nI (vs_t v - 1)))) := by
  refine wr_intro (own := RX0) (by decide +kernel) rfl (Nat.le_of_ble_eq_true rfl) (fun p e s m args below meth c pc ls H locs hx hb hr hlk d h1 h2 => rew_I hx hb hr hlk d h1 h2) ?_
  intro p e s m args below meth c ls Qq hx hb hml hown hts hK hP hS hend hl
  have hl : lv_has ls 3 [(0, .ref (a 0)), (1, .int (nI (k_)))] := hl
  obtain ⟨hv1, hv2, hv3, hv4, hv5, hv6⟩ := id hv
  have hP : va_P D vwCl (xw κ a ((vs_c v, vs_n v, vs_t v), vs_ct v, vs_so v, vs_sh v, vs_th v)) s.heap := hP
  refine lv_aload_n hx hb dX0_strike_0 rfl (lv_at hl 0 rfl) ?_
  refine lv_iload_n hx hb dX0_strike_1 rfl (lv_at hl 1 rfl) ?_
  refine rd_VN (rest := []) ⟨hx, hb, hml, hown, hts⟩ (c_X0_needToss l D κ a v hv (k_) (by omega)) g_X0_82 n_X0_needToss ⟨Nat.le_of_ble_eq_true rfl, Nat.le_of_ble_eq_true rfl⟩ hK hP rfl rfl rfl hl.1 rfl (Nat.le_of_ble_eq_true rfl) dX0_strike_2 ⟨Nat.zero_le _, Nat.zero_le _⟩ ?_
  refine lv_aload_n hx hb dX0_strike_5 rfl (lv_at hl 0 rfl) ?_
  refine lv_dup hx hb dX0_strike_6 rfl ?_
  refine va_get (D := D) (ci := 0) (v := .int (nI (vs_t v))) (C := RX0) (T := TX0) (N := 7) hx hb hts i_X0 hown hK hP 0 rfl rfl 6 (by decide) (hts _ q_f_X0_32) (fun _ h9 => h9) rfl dX0_strike_7 ?_
  refine lv_iconst (v := nI (1)) hx hb dX0_strike_10 (by decide) ?_
  refine nv_isub (r := (vs_t v) - 1) hx hb dX0_strike_11 (by omega) ?_
  refine va_put (D := D) (ci := 0) (v := .int (nI ((vs_t v) - 1))) (ty := .int) (C := RX0) (T := TX0) (N := 7) hx hb hts i_X0 tyX0 tyX0_ok nmX0 hown hK hP (xw_D hap κ _) hS 0 rfl rfl 6 (by decide) (hts _ q_f_X0_32) (fun _ h9 => h9) rfl (by decide +kernel) rfl rfl (Nat.le_of_ble_eq_true rfl) dX0_strike_12 (fun H locs hP _ hS => ?_)
  have hP : va_P D vwCl (xw κ a ((vs_c v, vs_n v, (vs_t v) - 1), vs_ct v, vs_so v, vs_sh v, vs_th v)) H := hP
  refine lv_iload_n hx hb dX0_strike_15 rfl (lv_at hl 1 rfl) ?_
  refine lv_istore_n (lv' := [(2, .int (nI (k_))), (0, .ref (a 0)), (1, .int (nI (k_)))]) hx hb dX0_strike_16 rfl hl (by decide) rfl (fun ls hl => ?_)
  suffices hloop_17 : ∀ (n_17 i : Nat) (ls : Array Slot) (H : Heap) (locs : List Loc), i + n_17 = vs_t v - 1 → lv_has ls 3 [(0, .ref (a 0)), (1, .int (nI (k_))), (2, .int (nI (i)))] → va_P D vwCl (xw κ a ((vs_c v, vs_n v, (vs_t v) - 1), vs_ct v, vs_so v, vs_sh v, sh_ (vs_th v) k_ i)) H → va_S (xa_ a) s.heap H locs → (k_ ≤ i) → W p l e (rm_ 1 21) s m args below meth c H locs 0 0 Qq (F0 m 17 ls []) from hloop_17 (vs_t v - 1 - k_) (k_) ls H locs (by omega) (lv_sub hl [1, 2, 0] rfl) (by have e9 : xw κ a ((vs_c v, vs_n v, (vs_t v) - 1), vs_ct v, vs_so v, vs_sh v, vs_th v) = xw κ a ((vs_c v, vs_n v, (vs_t v) - 1), vs_ct v, vs_so v, vs_sh v, sh_ (vs_th v) k_ (k_)) := (by rw [sh_0]); rw [← e9]; exact hP) hS (Nat.le_refl _)
  intro n_17
  induction n_17 with
  | zero =>
    intro i ls H locs hin_17 hl hP hS hki
    have hi_17 : i = vs_t v - 1 := by omega
    refine lv_iload_n hx hb dX0_strike_17 rfl (lv_at hl 2 rfl) ?_
    refine lv_aload_n hx hb dX0_strike_18 rfl (lv_at hl 0 rfl) ?_
    refine va_get (D := D) (ci := 0) (v := .int (nI ((vs_t v) - 1))) (C := RX0) (T := TX0) (N := 7) hx hb hts i_X0 hown hK hP 0 rfl rfl 6 (by decide) (hts _ q_f_X0_32) (fun _ h9 => h9) rfl dX0_strike_19 ?_
    refine nv_icmp_ge (tgt := 45) hx hb dX0_strike_22 (by decide) (by omega) (by omega) (fun c_22 => ?_) (fun z => absurd z (by omega))
    refine lv_aload_n hx hb dX0_strike_45 rfl (lv_at hl 0 rfl) ?_
    refine va_get (D := D) (ci := 0) (v := .int (nI ((vs_t v) - 1))) (C := RX0) (T := TX0) (N := 7) hx hb hts i_X0 hown hK hP 0 rfl rfl 6 (by decide) (hts _ q_f_X0_32) (fun _ h9 => h9) rfl dX0_strike_46 ?_
    have hP : va_P D vwCl (xw κ a (nx_strike v k_)) H := by
      have e9 : xw κ a ((vs_c v, vs_n v, (vs_t v) - 1), vs_ct v, vs_so v, vs_sh v, sh_ (vs_th v) k_ i) = xw κ a (nx_strike v k_) := by rw [hi_17]; rfl
      rw [← e9]
      exact hP
    refine nv_topi (congrArg nI (show ((vs_t v) - 1 : Nat) = vs_t v - 1 from by first | rfl | omega)) ?_
    exact hend _ _ _ _ dX0_strike_49 hP hS
  | succ n_17 ih_17 =>
    intro i ls H locs hin_17 hl hP hS hki
    refine lv_iload_n hx hb dX0_strike_17 rfl (lv_at hl 2 rfl) ?_
    refine lv_aload_n hx hb dX0_strike_18 rfl (lv_at hl 0 rfl) ?_
    refine va_get (D := D) (ci := 0) (v := .int (nI ((vs_t v) - 1))) (C := RX0) (T := TX0) (N := 7) hx hb hts i_X0 hown hK hP 0 rfl rfl 6 (by decide) (hts _ q_f_X0_32) (fun _ h9 => h9) rfl dX0_strike_19 ?_
    refine nv_icmp_ge (tgt := 45) hx hb dX0_strike_22 (by decide) (by omega) (by omega) (fun z => absurd z (by omega)) (fun c_22 => ?_)
    refine lv_aload_n hx hb dX0_strike_25 rfl (lv_at hl 0 rfl) ?_
    refine va_get (D := D) (ci := 0) (v := .ref (a 4)) (C := RX0) (T := TX0) (N := 7) hx hb hts i_X0 hown hK hP 0 rfl rfl 3 (by decide) (hts _ q_f_X0_21) (fun _ h9 => h9) rfl dX0_strike_26 ?_
    refine lv_iload_n hx hb dX0_strike_29 rfl (lv_at hl 2 rfl) ?_
    refine lv_aload_n hx hb dX0_strike_30 rfl (lv_at hl 0 rfl) ?_
    refine va_get (D := D) (ci := 0) (v := .ref (a 4)) (C := RX0) (T := TX0) (N := 7) hx hb hts i_X0 hown hK hP 0 rfl rfl 3 (by decide) (hts _ q_f_X0_21) (fun _ h9 => h9) rfl dX0_strike_31 ?_
    refine lv_iload_n hx hb dX0_strike_34 rfl (lv_at hl 2 rfl) ?_
    refine lv_iconst (v := nI (1)) hx hb dX0_strike_35 (by decide) ?_
    refine nv_iadd hx hb dX0_strike_36 rfl ?_
    refine nv_zald hx hb hK hP 4 2 (n := 12) (v := bI ((sh_ (vs_th v) k_ i) (i + 1))) rfl rfl (by omega) (by decide) rfl dX0_strike_37 ?_
    refine nv_zast hx hb hK hP (xw_D hap κ _) hS 4 2 (n := 12) (j := i) rfl rfl (by omega) (by decide) xs_th dX0_strike_38 (fun H locs hP hS => ?_)
    have hP : va_P D vwCl (xw κ a ((vs_c v, vs_n v, (vs_t v) - 1), vs_ct v, vs_so v, vs_sh v, upB (sh_ (vs_th v) k_ i) i ((sh_ (vs_th v) k_ i) (i + 1)))) H := hP
    refine lv_iinc (v := nI (i + 1)) (lv' := [(2, .int (nI (i + 1))), (0, .ref (a 0)), (1, .int (nI (k_)))]) hx hb dX0_strike_39 hl (k := 2) rfl (nI_add _ _) (by decide) rfl (fun ls hl => ?_)
    refine lv_goto (tgt := 17) hx hb dX0_strike_42 (by decide) ?_
    exact ih_17 (i + 1) ls _ _ (by omega) (lv_cast (k := [(0, .ref (a 0)), (1, .int (nI (k_))), (2, .int (nI (i + 1)))]) (lv_sub hl [1, 2, 0] rfl) (lc_cons rfl (lc_cons rfl (lc_cons (congrArg (fun z : Nat => ((2 : Nat), Value.int (nI z))) (show (i + 1 : Nat) = (i + 1) from by first | rfl | omega)) rfl)))) (by have e9 : xw κ a ((vs_c v, vs_n v, (vs_t v) - 1), vs_ct v, vs_so v, vs_sh v, upB (sh_ (vs_th v) k_ i) i ((sh_ (vs_th v) k_ i) (i + 1))) = xw κ a ((vs_c v, vs_n v, (vs_t v) - 1), vs_ct v, vs_so v, vs_sh v, sh_ (vs_th v) k_ (i + 1)) := (by rw [sh_s hki]); rw [← e9]; exact hP) hS (by omega)
