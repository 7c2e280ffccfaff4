set_option maxHeartbeats 4000000 in
set_option maxRecDepth 100000 in
theorem c_X1_fail_ok (l : Launch) (D : va_G) (κ : Nat → ClassId) (b : Nat → Nat) (u : Nat) (v : VS) (hv : ok_v v) (hap : ap_ b 4) (k_ : Nat) (hk : k_ < 2 ^ 31) : Wr l yX1_fail cX1_fail 2 (some .int) 0 0 (Pw D (kt_ κ) (mw κ b u v) [.ref (b 0), .int (nI (k_))]) D (mw κ b k_ v) (ma_ b) (some (.int (nI (0)))) := by
  refine wr_intro (own := RX1) (by decide +kernel) rfl (Nat.le_of_ble_eq_true rfl) (fun p e s m args below meth c pc ls H locs hx hb hr hlk d h1 h2 => rew_I hx hb hr hlk d h1 h2) ?_
  intro p e s m args below meth c ls Qq hx hb hml hown hts hK hP hS hend hl
  have hl : lv_has ls 2 [(0, .ref (b 0)), (1, .int (nI (k_)))] := hl
  obtain ⟨hv1, hv2, hv3, hv4, hv5, hv6⟩ := id hv
  have hP : va_P D vwCl (mw κ b u v) s.heap := hP
  refine lv_aload_n hx hb dX1_fail_0 rfl (lv_at hl 0 rfl) ?_
  refine lv_iload_n hx hb dX1_fail_1 rfl (lv_at hl 1 rfl) ?_
  refine va_put (D := D) (ci := 1) (v := .int (nI (k_))) (ty := .int) (C := RX1) (T := TX1) (N := 8) hx hb hts i_X1 tyX1 tyX1_ok nmX1 hown hK hP (mx_D hap κ _ _ _ _ _ _ _ _) hS 0 rfl rfl 0 (by decide) (hts _ q_f_X1_19) (fun _ h9 => h9) rfl (by decide +kernel) rfl rfl (Nat.le_of_ble_eq_true rfl) dX1_fail_2 (fun H locs hP _ hS => ?_)
  have hP : va_P D vwCl (mw κ b k_ v) H := hP
  refine lv_iconst (v := nI (0)) hx hb dX1_fail_5 (by decide) ?_
  exact hend _ _ _ _ dX1_fail_6 hP hS
set_option maxHeartbeats 4000000 in
set_option maxRecDepth 100000 in
theorem c_X1_told_ok (l : Launch) (D : va_G) (κ : Nat → ClassId) (b : Nat → Nat) (u : Nat) (v : VS) (hv : ok_v v) (hap : ap_ b 4) (q_ : Int32) : Wr l yX1_told cX1_told 2 (some .int) 0 0 (Pw D (kt_ κ) (mw κ b u v) [.ref (b 0), .int (q_)]) D (mw κ b 0 v) (ma_ b) (some (.int (q_))) := by
  refine wr_intro (own := RX1) (by decide +kernel) rfl (Nat.le_of_ble_eq_true rfl) (fun p e s m args below meth c pc ls H locs hx hb hr hlk d h1 h2 => rew_I hx hb hr hlk d h1 h2) ?_
  intro p e s m args below meth c ls Qq hx hb hml hown hts hK hP hS hend hl
  have hl : lv_has ls 2 [(0, .ref (b 0)), (1, .int (q_))] := hl
  obtain ⟨hv1, hv2, hv3, hv4, hv5, hv6⟩ := id hv
  have hP : va_P D vwCl (mw κ b u v) s.heap := hP
  refine lv_aload_n hx hb dX1_told_0 rfl (lv_at hl 0 rfl) ?_
  refine lv_iconst (v := nI (0)) hx hb dX1_told_1 (by decide) ?_
  refine va_put (D := D) (ci := 1) (v := .int (nI (0))) (ty := .int) (C := RX1) (T := TX1) (N := 8) hx hb hts i_X1 tyX1 tyX1_ok nmX1 hown hK hP (mx_D hap κ _ _ _ _ _ _ _ _) hS 0 rfl rfl 0 (by decide) (hts _ q_f_X1_19) (fun _ h9 => h9) rfl (by decide +kernel) rfl rfl (Nat.le_of_ble_eq_true rfl) dX1_told_2 (fun H locs hP _ hS => ?_)
  have hP : va_P D vwCl (mw κ b 0 v) H := hP
  refine lv_iload_n hx hb dX1_told_5 rfl (lv_at hl 1 rfl) ?_
  exact hend _ _ _ _ dX1_told_6 hP hS
set_option maxHeartbeats 4000000 in
set_option maxRecDepth 100000 in
theorem c_X1_addCoin_x1 (l : Launch) (D : va_G) (κ : Nat → ClassId) (b : Nat → Nat) (u : Nat) (v : VS) (hv : ok_v v) (hap : ap_ b 4) (x : Int32) (hx0 : ir_ x 0 10 = false) : Wr l yX1_addCoin cX1_addCoin 3 (some .int) 1 22 (Pw D (kt_ κ) (mw κ b u v) [.ref (b 0), .int (x)]) D (mw κ b 1 v) (ma_ b) (some (.int (nI (0)))) := by
  refine wr_intro (own := RX1) (by decide +kernel) rfl (Nat.le_of_ble_eq_true rfl) (fun p e s m args below meth c pc ls H locs hx hb hr hlk d h1 h2 => rew_I hx hb hr hlk d h1 h2) ?_
  intro p e s m args below meth c ls Qq hx hb hml hown hts hK hP hS hend hl
  have hl : lv_has ls 3 [(0, .ref (b 0)), (1, .int (x))] := hl
  obtain ⟨hv1, hv2, hv3, hv4, hv5, hv6⟩ := id hv
  have hP : va_P D vwCl (mw κ b u v) s.heap := hP
  refine lv_aload_n hx hb dX1_addCoin_0 rfl (lv_at hl 0 rfl) ?_
  refine lv_iconst (v := nI (0)) hx hb dX1_addCoin_1 (by decide) ?_
  refine va_put (D := D) (ci := 1) (v := .int (nI (0))) (ty := .int) (C := RX1) (T := TX1) (N := 8) hx hb hts i_X1 tyX1 tyX1_ok nmX1 hown hK hP (mx_D hap κ _ _ _ _ _ _ _ _) hS 0 rfl rfl 0 (by decide) (hts _ q_f_X1_19) (fun _ h9 => h9) rfl (by decide +kernel) rfl rfl (Nat.le_of_ble_eq_true rfl) dX1_addCoin_2 (fun H locs hP _ hS => ?_)
  have hP : va_P D vwCl (mw κ b 0 v) H := hP
  refine lv_iload_n hx hb dX1_addCoin_5 rfl (lv_at hl 1 rfl) ?_
  refine lv_iconst (v := nI (0)) hx hb dX1_addCoin_6 (by decide) ?_
  refine lv_bipush (v := nI (10)) hx hb dX1_addCoin_7 (by decide) ?_
  refine rd_S (rest := []) ⟨hx, hb, hml, hown, hts⟩ (c_X1_isIn l (x) (nI (0)) (nI (10))) g_X1_26 n_X1_isIn ⟨Nat.le_of_ble_eq_true rfl, Nat.le_of_ble_eq_true rfl⟩ rfl hl.1 rfl (Nat.le_of_ble_eq_true rfl) dX1_addCoin_9 ⟨Nat.zero_le _, Nat.zero_le _⟩ ?_
  refine nv_topi (congrArg bI (show (ii_ x (nI (0)) (nI (10)) : Bool) = ir_ x 0 10 from by exact ii_ir x (by omega) (by omega))) ?_
  refine bv_if_ne (tgt := 21) hx hb dX1_addCoin_12 (by decide) (fun z => absurd z (by simp [hx0])) (fun c_12 => ?_)
  refine lv_aload_n hx hb dX1_addCoin_15 rfl (lv_at hl 0 rfl) ?_
  refine lv_iconst (v := nI (1)) hx hb dX1_addCoin_16 (by decide) ?_
  refine wr_V (rest := []) ⟨hx, hb, hml, hown, hts⟩ (c_X1_fail_ok l D κ b 0 v hv hap (1) (by omega)) g_X1_73 n_X1_fail ⟨Nat.le_of_ble_eq_true rfl, Nat.le_of_ble_eq_true rfl⟩ hK hP rfl rfl rfl hl.1 rfl (Nat.le_of_ble_eq_true rfl) dX1_addCoin_17 ⟨Nat.zero_le _, Nat.zero_le _⟩ hS (fun _ h => h) (fun H locs hP hS _ _ => ?_)
  have hP : va_P D vwCl (mw κ b 1 v) H := hP
  exact hend _ _ _ _ dX1_addCoin_20 hP hS
set_option maxHeartbeats 4000000 in
set_option maxRecDepth 100000 in
theorem c_X1_addCoin_x2 (l : Launch) (D : va_G) (κ : Nat → ClassId) (b : Nat → Nat) (u : Nat) (v : VS) (hv : ok_v v) (hap : ap_ b 4) (t_ : Nat) (ht : t_ ≤ 10) (hz : vs_c v = 8 ∨ 0 < vs_t v) : Wr l yX1_addCoin cX1_addCoin 3 (some .int) 1 22 (Pw D (kt_ κ) (mw κ b u v) [.ref (b 0), .int (nI (t_))]) D (mw κ b 2 v) (ma_ b) (some (.int (nI (0)))) := by
  refine wr_intro (own := RX1) (by decide +kernel) rfl (Nat.le_of_ble_eq_true rfl) (fun p e s m args below meth c pc ls H locs hx hb hr hlk d h1 h2 => rew_I hx hb hr hlk d h1 h2) ?_
  intro p e s m args below meth c ls Qq hx hb hml hown hts hK hP hS hend hl
  have hl : lv_has ls 3 [(0, .ref (b 0)), (1, .int (nI (t_)))] := hl
  obtain ⟨hv1, hv2, hv3, hv4, hv5, hv6⟩ := id hv
  have hP : va_P D vwCl (mw κ b u v) s.heap := hP
  refine lv_aload_n hx hb dX1_addCoin_0 rfl (lv_at hl 0 rfl) ?_
  refine lv_iconst (v := nI (0)) hx hb dX1_addCoin_1 (by decide) ?_
  refine va_put (D := D) (ci := 1) (v := .int (nI (0))) (ty := .int) (C := RX1) (T := TX1) (N := 8) hx hb hts i_X1 tyX1 tyX1_ok nmX1 hown hK hP (mx_D hap κ _ _ _ _ _ _ _ _) hS 0 rfl rfl 0 (by decide) (hts _ q_f_X1_19) (fun _ h9 => h9) rfl (by decide +kernel) rfl rfl (Nat.le_of_ble_eq_true rfl) dX1_addCoin_2 (fun H locs hP _ hS => ?_)
  have hP : va_P D vwCl (mw κ b 0 v) H := hP
  refine lv_iload_n hx hb dX1_addCoin_5 rfl (lv_at hl 1 rfl) ?_
  refine lv_iconst (v := nI (0)) hx hb dX1_addCoin_6 (by decide) ?_
  refine lv_bipush (v := nI (10)) hx hb dX1_addCoin_7 (by decide) ?_
  refine rd_S (rest := []) ⟨hx, hb, hml, hown, hts⟩ (c_X1_isIn l (nI (t_)) (nI (0)) (nI (10))) g_X1_26 n_X1_isIn ⟨Nat.le_of_ble_eq_true rfl, Nat.le_of_ble_eq_true rfl⟩ rfl hl.1 rfl (Nat.le_of_ble_eq_true rfl) dX1_addCoin_9 ⟨Nat.zero_le _, Nat.zero_le _⟩ ?_
  refine nv_topi (congrArg bI (show (ii_ (nI (t_)) (nI (0)) (nI (10)) : Bool) = true from by rw [ii_ir _ (by omega) (by omega)]; exact ir_nI (j := t_) (by omega) (by omega) (by omega))) ?_
  refine bv_if_ne (tgt := 21) hx hb dX1_addCoin_12 (by decide) (fun c_12 => ?_) (fun z => absurd z (by simp))
  refine lv_aload_n hx hb dX1_addCoin_21 rfl (lv_at hl 0 rfl) ?_
  refine va_get (D := D) (ci := 1) (v := .int (nI (vs_c v))) (C := RX1) (T := TX1) (N := 8) hx hb hts i_X1 hown hK hP 0 rfl rfl 1 (by decide) (hts _ q_f_X1_23) (fun _ h9 => h9) rfl dX1_addCoin_22 ?_
  refine lv_bipush (v := nI (8)) hx hb dX1_addCoin_25 (by decide) ?_
  refine nv_icmp_eq (tgt := 37) hx hb dX1_addCoin_27 (by decide) (by omega) (by omega) (fun c_27 => ?_) (fun c_27 => ?_)
  · refine lv_aload_n hx hb dX1_addCoin_37 rfl (lv_at hl 0 rfl) ?_
    refine lv_iconst (v := nI (2)) hx hb dX1_addCoin_38 (by decide) ?_
    refine wr_V (rest := []) ⟨hx, hb, hml, hown, hts⟩ (c_X1_fail_ok l D κ b 0 v hv hap (2) (by omega)) g_X1_73 n_X1_fail ⟨Nat.le_of_ble_eq_true rfl, Nat.le_of_ble_eq_true rfl⟩ hK hP rfl rfl rfl hl.1 rfl (Nat.le_of_ble_eq_true rfl) dX1_addCoin_39 ⟨Nat.zero_le _, Nat.zero_le _⟩ hS (fun _ h => h) (fun H locs hP hS _ _ => ?_)
    have hP : va_P D vwCl (mw κ b 2 v) H := hP
    exact hend _ _ _ _ dX1_addCoin_42 hP hS
  · refine lv_aload_n hx hb dX1_addCoin_30 rfl (lv_at hl 0 rfl) ?_
    refine va_get (D := D) (ci := 1) (v := .int (nI (vs_t v))) (C := RX1) (T := TX1) (N := 8) hx hb hts i_X1 hown hK hP 0 rfl rfl 3 (by decide) (hts _ q_f_X1_33) (fun _ h9 => h9) rfl dX1_addCoin_31 ?_
    refine nv_if_le (tgt := 43) hx hb dX1_addCoin_34 (by decide) (by omega) (fun z => absurd z (by omega)) (fun c_34 => ?_)
    refine lv_aload_n hx hb dX1_addCoin_37 rfl (lv_at hl 0 rfl) ?_
    refine lv_iconst (v := nI (2)) hx hb dX1_addCoin_38 (by decide) ?_
    refine wr_V (rest := []) ⟨hx, hb, hml, hown, hts⟩ (c_X1_fail_ok l D κ b 0 v hv hap (2) (by omega)) g_X1_73 n_X1_fail ⟨Nat.le_of_ble_eq_true rfl, Nat.le_of_ble_eq_true rfl⟩ hK hP rfl rfl rfl hl.1 rfl (Nat.le_of_ble_eq_true rfl) dX1_addCoin_39 ⟨Nat.zero_le _, Nat.zero_le _⟩ hS (fun _ h => h) (fun H locs hP hS _ _ => ?_)
    have hP : va_P D vwCl (mw κ b 2 v) H := hP
    exact hend _ _ _ _ dX1_addCoin_42 hP hS
set_option maxHeartbeats 4000000 in
set_option maxRecDepth 100000 in
theorem c_X1_addCoin_ok (l : Launch) (D : va_G) (κ : Nat → ClassId) (b : Nat → Nat) (u : Nat) (v : VS) (hv : ok_v v) (hap : ap_ b 4) (t_ : Nat) (ht : t_ ≤ 10) (hc8 : vs_c v < 8) (h0 : vs_t v = 0) (hu : un_ v) : Wr l yX1_addCoin cX1_addCoin 3 (some .int) 1 22 (Pw D (kt_ κ) (mw κ b u v) [.ref (b 0), .int (nI (t_))]) D (mw κ b 0 (nx_addCoin v t_)) (ma_ b) (some (.int (nI (vs_c v)))) := by
  refine wr_intro (own := RX1) (by decide +kernel) rfl (Nat.le_of_ble_eq_true rfl) (fun p e s m args below meth c pc ls H locs hx hb hr hlk d h1 h2 => rew_I hx hb hr hlk d h1 h2) ?_
  intro p e s m args below meth c ls Qq hx hb hml hown hts hK hP hS hend hl
  have hl : lv_has ls 3 [(0, .ref (b 0)), (1, .int (nI (t_)))] := hl
  obtain ⟨hv1, hv2, hv3, hv4, hv5, hv6⟩ := id hv
  have hP : va_P D vwCl (mw κ b u v) s.heap := hP
  refine lv_aload_n hx hb dX1_addCoin_0 rfl (lv_at hl 0 rfl) ?_
  refine lv_iconst (v := nI (0)) hx hb dX1_addCoin_1 (by decide) ?_
  refine va_put (D := D) (ci := 1) (v := .int (nI (0))) (ty := .int) (C := RX1) (T := TX1) (N := 8) hx hb hts i_X1 tyX1 tyX1_ok nmX1 hown hK hP (mx_D hap κ _ _ _ _ _ _ _ _) hS 0 rfl rfl 0 (by decide) (hts _ q_f_X1_19) (fun _ h9 => h9) rfl (by decide +kernel) rfl rfl (Nat.le_of_ble_eq_true rfl) dX1_addCoin_2 (fun H locs hP _ hS => ?_)
  have hP : va_P D vwCl (mw κ b 0 v) H := hP
  refine lv_iload_n hx hb dX1_addCoin_5 rfl (lv_at hl 1 rfl) ?_
  refine lv_iconst (v := nI (0)) hx hb dX1_addCoin_6 (by decide) ?_
  refine lv_bipush (v := nI (10)) hx hb dX1_addCoin_7 (by decide) ?_
  refine rd_S (rest := []) ⟨hx, hb, hml, hown, hts⟩ (c_X1_isIn l (nI (t_)) (nI (0)) (nI (10))) g_X1_26 n_X1_isIn ⟨Nat.le_of_ble_eq_true rfl, Nat.le_of_ble_eq_true rfl⟩ rfl hl.1 rfl (Nat.le_of_ble_eq_true rfl) dX1_addCoin_9 ⟨Nat.zero_le _, Nat.zero_le _⟩ ?_
  refine nv_topi (congrArg bI (show (ii_ (nI (t_)) (nI (0)) (nI (10)) : Bool) = true from by rw [ii_ir _ (by omega) (by omega)]; exact ir_nI (j := t_) (by omega) (by omega) (by omega))) ?_
  refine bv_if_ne (tgt := 21) hx hb dX1_addCoin_12 (by decide) (fun c_12 => ?_) (fun z => absurd z (by simp))
  refine lv_aload_n hx hb dX1_addCoin_21 rfl (lv_at hl 0 rfl) ?_
  refine va_get (D := D) (ci := 1) (v := .int (nI (vs_c v))) (C := RX1) (T := TX1) (N := 8) hx hb hts i_X1 hown hK hP 0 rfl rfl 1 (by decide) (hts _ q_f_X1_23) (fun _ h9 => h9) rfl dX1_addCoin_22 ?_
  refine lv_bipush (v := nI (8)) hx hb dX1_addCoin_25 (by decide) ?_
  refine nv_icmp_eq (tgt := 37) hx hb dX1_addCoin_27 (by decide) (by omega) (by omega) (fun z => absurd z (by omega)) (fun c_27 => ?_)
  refine lv_aload_n hx hb dX1_addCoin_30 rfl (lv_at hl 0 rfl) ?_
  refine va_get (D := D) (ci := 1) (v := .int (nI (vs_t v))) (C := RX1) (T := TX1) (N := 8) hx hb hts i_X1 hown hK hP 0 rfl rfl 3 (by decide) (hts _ q_f_X1_33) (fun _ h9 => h9) rfl dX1_addCoin_31 ?_
  refine nv_if_le (tgt := 43) hx hb dX1_addCoin_34 (by decide) (by omega) (fun c_34 => ?_) (fun z => absurd z (by omega))
  refine lv_aload_n hx hb dX1_addCoin_43 rfl (lv_at hl 0 rfl) ?_
  refine va_get (D := D) (ci := 1) (v := .ref (b 1)) (C := RX1) (T := TX1) (N := 8) hx hb hts i_X1 hown hK hP 0 rfl rfl 5 (by decide) (hts _ q_f_X1_9) (fun _ h9 => h9) rfl dX1_addCoin_44 ?_
  refine lv_aload_n hx hb dX1_addCoin_47 rfl (lv_at hl 0 rfl) ?_
  refine va_get (D := D) (ci := 1) (v := .int (nI (vs_c v))) (C := RX1) (T := TX1) (N := 8) hx hb hts i_X1 hown hK hP 0 rfl rfl 1 (by decide) (hts _ q_f_X1_23) (fun _ h9 => h9) rfl dX1_addCoin_48 ?_
  refine lv_iload_n hx hb dX1_addCoin_51 rfl (lv_at hl 1 rfl) ?_
  refine nv_iast hx hb hK hP (mx_D hap κ _ _ _ _ _ _ _ _) hS 1 0 (n := 8) (j := vs_c v) rfl rfl (by omega) (by decide) ms_ct dX1_addCoin_52 (fun H locs hP hS => ?_)
  have hP : va_P D vwCl (mx_ κ b 0 (vs_c v) (vs_n v) (vs_t v) (rw_ v) (upN (vs_ct v) (vs_c v) t_) (vs_so v) (ms_ v)) H := hP
  refine lv_iconst (v := nI (0)) hx hb dX1_addCoin_53 (by decide) ?_
  refine lv_istore_n (lv' := [(2, .int (nI (0))), (0, .ref (b 0)), (1, .int (nI (t_)))]) hx hb dX1_addCoin_54 rfl hl (by decide) rfl (fun ls hl => ?_)
  suffices hloop_55 : ∀ (n_55 i : Nat) (ls : Array Slot) (H : Heap) (locs : List Loc), i + n_55 = vs_n v → lv_has ls 3 [(0, .ref (b 0)), (1, .int (nI (t_))), (2, .int (nI (i)))] → va_P D vwCl (mx_ κ b 0 (vs_c v) (vs_n v) (vs_t v) (rw_ v) (upN (vs_ct v) (vs_c v) t_) (vs_so v) (ac_ (ms_ v) (vs_c v) i)) H → va_S (ma_ b) s.heap H locs → W p l e (rm_ 1 22) s m args below meth c H locs 0 0 Qq (F0 m 55 ls []) from hloop_55 (vs_n v - 0) (0) ls H locs (by omega) (lv_sub hl [1, 2, 0] rfl) (by have e9 : mx_ κ b 0 (vs_c v) (vs_n v) (vs_t v) (rw_ v) (upN (vs_ct v) (vs_c v) t_) (vs_so v) (ms_ v) = mx_ κ b 0 (vs_c v) (vs_n v) (vs_t v) (rw_ v) (upN (vs_ct v) (vs_c v) t_) (vs_so v) (ac_ (ms_ v) (vs_c v) (0)) := (by rw [ac_0]); rw [← e9]; exact hP) hS
  intro n_55
  induction n_55 with
  | zero =>
    intro i ls H locs hin_55 hl hP hS
    have hi_55 : i = vs_n v := by omega
    refine lv_iload_n hx hb dX1_addCoin_55 rfl (lv_at hl 2 rfl) ?_
    refine lv_aload_n hx hb dX1_addCoin_56 rfl (lv_at hl 0 rfl) ?_
    refine va_get (D := D) (ci := 1) (v := .int (nI (vs_n v))) (C := RX1) (T := TX1) (N := 8) hx hb hts i_X1 hown hK hP 0 rfl rfl 2 (by decide) (hts _ q_f_X1_30) (fun _ h9 => h9) rfl dX1_addCoin_57 ?_
    refine nv_icmp_ge (tgt := 83) hx hb dX1_addCoin_60 (by decide) (by omega) (by omega) (fun c_60 => ?_) (fun z => absurd z (by omega))
    refine lv_aload_n hx hb dX1_addCoin_83 rfl (lv_at hl 0 rfl) ?_
    refine lv_dup hx hb dX1_addCoin_84 rfl ?_
    refine va_get (D := D) (ci := 1) (v := .int (nI (vs_c v))) (C := RX1) (T := TX1) (N := 8) hx hb hts i_X1 hown hK hP 0 rfl rfl 1 (by decide) (hts _ q_f_X1_23) (fun _ h9 => h9) rfl dX1_addCoin_85 ?_
    refine lv_iconst (v := nI (1)) hx hb dX1_addCoin_88 (by decide) ?_
    refine nv_iadd hx hb dX1_addCoin_89 rfl ?_
    refine va_put (D := D) (ci := 1) (v := .int (nI ((vs_c v) + 1))) (ty := .int) (C := RX1) (T := TX1) (N := 8) hx hb hts i_X1 tyX1 tyX1_ok nmX1 hown hK hP (mx_D hap κ _ _ _ _ _ _ _ _) hS 0 rfl rfl 1 (by decide) (hts _ q_f_X1_23) (fun _ h9 => h9) rfl (by decide +kernel) rfl rfl (Nat.le_of_ble_eq_true rfl) dX1_addCoin_90 (fun H locs hP _ hS => ?_)
    have hP : va_P D vwCl (mx_ κ b 0 ((vs_c v) + 1) (vs_n v) (vs_t v) (rw_ v) (upN (vs_ct v) (vs_c v) t_) (vs_so v) (ac_ (ms_ v) (vs_c v) i)) H := hP
    refine lv_aload_n hx hb dX1_addCoin_93 rfl (lv_at hl 0 rfl) ?_
    refine va_get (D := D) (ci := 1) (v := .int (nI ((vs_c v) + 1))) (C := RX1) (T := TX1) (N := 8) hx hb hts i_X1 hown hK hP 0 rfl rfl 1 (by decide) (hts _ q_f_X1_23) (fun _ h9 => h9) rfl dX1_addCoin_94 ?_
    refine lv_iconst (v := nI (1)) hx hb dX1_addCoin_97 (by decide) ?_
    refine nv_isub (r := ((vs_c v) + 1) - 1) hx hb dX1_addCoin_98 (by omega) ?_
    have hP : va_P D vwCl (mw κ b 0 (nx_addCoin v t_)) H := by
      have e9 : mx_ κ b 0 ((vs_c v) + 1) (vs_n v) (vs_t v) (rw_ v) (upN (vs_ct v) (vs_c v) t_) (vs_so v) (ac_ (ms_ v) (vs_c v) i) = mw κ b 0 (nx_addCoin v t_) := by rw [hi_55, ms_addCoin hv hu t_]; rfl
      rw [← e9]
      exact hP
    refine nv_topi (congrArg nI (show (((vs_c v) + 1) - 1 : Nat) = vs_c v from by first | rfl | omega)) ?_
    exact hend _ _ _ _ dX1_addCoin_99 hP hS
  | succ n_55 ih_55 =>
    intro i ls H locs hin_55 hl hP hS
    refine lv_iload_n hx hb dX1_addCoin_55 rfl (lv_at hl 2 rfl) ?_
    refine lv_aload_n hx hb dX1_addCoin_56 rfl (lv_at hl 0 rfl) ?_
    refine va_get (D := D) (ci := 1) (v := .int (nI (vs_n v))) (C := RX1) (T := TX1) (N := 8) hx hb hts i_X1 hown hK hP 0 rfl rfl 2 (by decide) (hts _ q_f_X1_30) (fun _ h9 => h9) rfl dX1_addCoin_57 ?_
    refine nv_icmp_ge (tgt := 83) hx hb dX1_addCoin_60 (by decide) (by omega) (by omega) (fun z => absurd z (by omega)) (fun c_60 => ?_)
    refine lv_aload_n hx hb dX1_addCoin_63 rfl (lv_at hl 0 rfl) ?_
    refine va_get (D := D) (ci := 1) (v := .ref (b 3)) (C := RX1) (T := TX1) (N := 8) hx hb hts i_X1 hown hK hP 0 rfl rfl 7 (by decide) (hts _ q_f_X1_16) (fun _ h9 => h9) rfl dX1_addCoin_64 ?_
    refine lv_iconst (v := nI (4)) hx hb dX1_addCoin_67 (by decide) ?_
    refine lv_aload_n hx hb dX1_addCoin_68 rfl (lv_at hl 0 rfl) ?_
    refine va_get (D := D) (ci := 1) (v := .int (nI (vs_c v))) (C := RX1) (T := TX1) (N := 8) hx hb hts i_X1 hown hK hP 0 rfl rfl 1 (by decide) (hts _ q_f_X1_23) (fun _ h9 => h9) rfl dX1_addCoin_69 ?_
    refine nv_imul hx hb dX1_addCoin_72 rfl ?_
    refine lv_iload_n hx hb dX1_addCoin_73 rfl (lv_at hl 2 rfl) ?_
    refine nv_iadd hx hb dX1_addCoin_74 rfl ?_
    refine lv_iconst (v := nI (1)) hx hb dX1_addCoin_75 (by decide) ?_
    refine nv_iast hx hb hK hP (mx_D hap κ _ _ _ _ _ _ _ _) hS 3 0 (n := 32) (j := (4 * (vs_c v)) + i) rfl rfl (by omega) (by decide) ms_ms dX1_addCoin_76 (fun H locs hP hS => ?_)
    have hP : va_P D vwCl (mx_ κ b 0 (vs_c v) (vs_n v) (vs_t v) (rw_ v) (upN (vs_ct v) (vs_c v) t_) (vs_so v) (upN (ac_ (ms_ v) (vs_c v) i) ((4 * (vs_c v)) + i) 1)) H := hP
    refine lv_iinc (v := nI (i + 1)) (lv' := [(2, .int (nI (i + 1))), (0, .ref (b 0)), (1, .int (nI (t_)))]) hx hb dX1_addCoin_77 hl (k := 2) rfl (nI_add _ _) (by decide) rfl (fun ls hl => ?_)
    refine lv_goto (tgt := 55) hx hb dX1_addCoin_80 (by decide) ?_
    exact ih_55 (i + 1) ls _ _ (by omega) (lv_cast (k := [(0, .ref (b 0)), (1, .int (nI (t_))), (2, .int (nI (i + 1)))]) (lv_sub hl [1, 2, 0] rfl) (lc_cons rfl (lc_cons rfl (lc_cons (congrArg (fun z : Nat => ((2 : Nat), Value.int (nI z))) (show (i + 1 : Nat) = (i + 1) from by first | rfl | omega)) rfl)))) (by have e9 : mx_ κ b 0 (vs_c v) (vs_n v) (vs_t v) (rw_ v) (upN (vs_ct v) (vs_c v) t_) (vs_so v) (upN (ac_ (ms_ v) (vs_c v) i) ((4 * (vs_c v)) + i) 1) = mx_ κ b 0 (vs_c v) (vs_n v) (vs_t v) (rw_ v) (upN (vs_ct v) (vs_c v) t_) (vs_so v) (ac_ (ms_ v) (vs_c v) (i + 1)) := (by rw [ac_s]); rw [← e9]; exact hP) hS
set_option maxHeartbeats 4000000 in
set_option maxRecDepth 100000 in
theorem c_X1_addSchool_x1 (l : Launch) (D : va_G) (κ : Nat → ClassId) (b : Nat → Nat) (u : Nat) (v : VS) (hv : ok_v v) (hap : ap_ b 4) (x : Int32) (hx0 : ir_ x 1 9 = false) : Wr l yX1_addSchool cX1_addSchool 3 (some .int) 1 22 (Pw D (kt_ κ) (mw κ b u v) [.ref (b 0), .int (x)]) D (mw κ b 1 v) (ma_ b) (some (.int (nI (0)))) := by
  refine wr_intro (own := RX1) (by decide +kernel) rfl (Nat.le_of_ble_eq_true rfl) (fun p e s m args below meth c pc ls H locs hx hb hr hlk d h1 h2 => rew_I hx hb hr hlk d h1 h2) ?_
  intro p e s m args below meth c ls Qq hx hb hml hown hts hK hP hS hend hl
  have hl : lv_has ls 3 [(0, .ref (b 0)), (1, .int (x))] := hl
  obtain ⟨hv1, hv2, hv3, hv4, hv5, hv6⟩ := id hv
  have hP : va_P D vwCl (mw κ b u v) s.heap := hP
  refine lv_aload_n hx hb dX1_addSchool_0 rfl (lv_at hl 0 rfl) ?_
  refine lv_iconst (v := nI (0)) hx hb dX1_addSchool_1 (by decide) ?_
  refine va_put (D := D) (ci := 1) (v := .int (nI (0))) (ty := .int) (C := RX1) (T := TX1) (N := 8) hx hb hts i_X1 tyX1 tyX1_ok nmX1 hown hK hP (mx_D hap κ _ _ _ _ _ _ _ _) hS 0 rfl rfl 0 (by decide) (hts _ q_f_X1_19) (fun _ h9 => h9) rfl (by decide +kernel) rfl rfl (Nat.le_of_ble_eq_true rfl) dX1_addSchool_2 (fun H locs hP _ hS => ?_)
  have hP : va_P D vwCl (mw κ b 0 v) H := hP
  refine lv_iload_n hx hb dX1_addSchool_5 rfl (lv_at hl 1 rfl) ?_
  refine lv_iconst (v := nI (1)) hx hb dX1_addSchool_6 (by decide) ?_
  refine lv_bipush (v := nI (9)) hx hb dX1_addSchool_7 (by decide) ?_
  refine rd_S (rest := []) ⟨hx, hb, hml, hown, hts⟩ (c_X1_isIn l (x) (nI (1)) (nI (9))) g_X1_26 n_X1_isIn ⟨Nat.le_of_ble_eq_true rfl, Nat.le_of_ble_eq_true rfl⟩ rfl hl.1 rfl (Nat.le_of_ble_eq_true rfl) dX1_addSchool_9 ⟨Nat.zero_le _, Nat.zero_le _⟩ ?_
  refine nv_topi (congrArg bI (show (ii_ x (nI (1)) (nI (9)) : Bool) = ir_ x 1 9 from by exact ii_ir x (by omega) (by omega))) ?_
  refine bv_if_ne (tgt := 21) hx hb dX1_addSchool_12 (by decide) (fun z => absurd z (by simp [hx0])) (fun c_12 => ?_)
  refine lv_aload_n hx hb dX1_addSchool_15 rfl (lv_at hl 0 rfl) ?_
  refine lv_iconst (v := nI (1)) hx hb dX1_addSchool_16 (by decide) ?_
  refine wr_V (rest := []) ⟨hx, hb, hml, hown, hts⟩ (c_X1_fail_ok l D κ b 0 v hv hap (1) (by omega)) g_X1_73 n_X1_fail ⟨Nat.le_of_ble_eq_true rfl, Nat.le_of_ble_eq_true rfl⟩ hK hP rfl rfl rfl hl.1 rfl (Nat.le_of_ble_eq_true rfl) dX1_addSchool_17 ⟨Nat.zero_le _, Nat.zero_le _⟩ hS (fun _ h => h) (fun H locs hP hS _ _ => ?_)
  have hP : va_P D vwCl (mw κ b 1 v) H := hP
  exact hend _ _ _ _ dX1_addSchool_20 hP hS
set_option maxHeartbeats 4000000 in
set_option maxRecDepth 100000 in
theorem c_X1_addSchool_x2 (l : Launch) (D : va_G) (κ : Nat → ClassId) (b : Nat → Nat) (u : Nat) (v : VS) (hv : ok_v v) (hap : ap_ b 4) (t_ : Nat) (ht0 : 1 ≤ t_) (ht : t_ ≤ 9) (hz : vs_n v = 4 ∨ 0 < vs_t v) : Wr l yX1_addSchool cX1_addSchool 3 (some .int) 1 22 (Pw D (kt_ κ) (mw κ b u v) [.ref (b 0), .int (nI (t_))]) D (mw κ b 2 v) (ma_ b) (some (.int (nI (0)))) := by
  refine wr_intro (own := RX1) (by decide +kernel) rfl (Nat.le_of_ble_eq_true rfl) (fun p e s m args below meth c pc ls H locs hx hb hr hlk d h1 h2 => rew_I hx hb hr hlk d h1 h2) ?_
  intro p e s m args below meth c ls Qq hx hb hml hown hts hK hP hS hend hl
  have hl : lv_has ls 3 [(0, .ref (b 0)), (1, .int (nI (t_)))] := hl
  obtain ⟨hv1, hv2, hv3, hv4, hv5, hv6⟩ := id hv
  have hP : va_P D vwCl (mw κ b u v) s.heap := hP
  refine lv_aload_n hx hb dX1_addSchool_0 rfl (lv_at hl 0 rfl) ?_
  refine lv_iconst (v := nI (0)) hx hb dX1_addSchool_1 (by decide) ?_
  refine va_put (D := D) (ci := 1) (v := .int (nI (0))) (ty := .int) (C := RX1) (T := TX1) (N := 8) hx hb hts i_X1 tyX1 tyX1_ok nmX1 hown hK hP (mx_D hap κ _ _ _ _ _ _ _ _) hS 0 rfl rfl 0 (by decide) (hts _ q_f_X1_19) (fun _ h9 => h9) rfl (by decide +kernel) rfl rfl (Nat.le_of_ble_eq_true rfl) dX1_addSchool_2 (fun H locs hP _ hS => ?_)
  have hP : va_P D vwCl (mw κ b 0 v) H := hP
  refine lv_iload_n hx hb dX1_addSchool_5 rfl (lv_at hl 1 rfl) ?_
  refine lv_iconst (v := nI (1)) hx hb dX1_addSchool_6 (by decide) ?_
  refine lv_bipush (v := nI (9)) hx hb dX1_addSchool_7 (by decide) ?_
  refine rd_S (rest := []) ⟨hx, hb, hml, hown, hts⟩ (c_X1_isIn l (nI (t_)) (nI (1)) (nI (9))) g_X1_26 n_X1_isIn ⟨Nat.le_of_ble_eq_true rfl, Nat.le_of_ble_eq_true rfl⟩ rfl hl.1 rfl (Nat.le_of_ble_eq_true rfl) dX1_addSchool_9 ⟨Nat.zero_le _, Nat.zero_le _⟩ ?_
  refine nv_topi (congrArg bI (show (ii_ (nI (t_)) (nI (1)) (nI (9)) : Bool) = true from by rw [ii_ir _ (by omega) (by omega)]; exact ir_nI (j := t_) (by omega) (by omega) (by omega))) ?_
  refine bv_if_ne (tgt := 21) hx hb dX1_addSchool_12 (by decide) (fun c_12 => ?_) (fun z => absurd z (by simp))
  refine lv_aload_n hx hb dX1_addSchool_21 rfl (lv_at hl 0 rfl) ?_
  refine va_get (D := D) (ci := 1) (v := .int (nI (vs_n v))) (C := RX1) (T := TX1) (N := 8) hx hb hts i_X1 hown hK hP 0 rfl rfl 2 (by decide) (hts _ q_f_X1_30) (fun _ h9 => h9) rfl dX1_addSchool_22 ?_
  refine lv_iconst (v := nI (4)) hx hb dX1_addSchool_25 (by decide) ?_
  refine nv_icmp_eq (tgt := 36) hx hb dX1_addSchool_26 (by decide) (by omega) (by omega) (fun c_26 => ?_) (fun c_26 => ?_)
  · refine lv_aload_n hx hb dX1_addSchool_36 rfl (lv_at hl 0 rfl) ?_
    refine lv_iconst (v := nI (2)) hx hb dX1_addSchool_37 (by decide) ?_
    refine wr_V (rest := []) ⟨hx, hb, hml, hown, hts⟩ (c_X1_fail_ok l D κ b 0 v hv hap (2) (by omega)) g_X1_73 n_X1_fail ⟨Nat.le_of_ble_eq_true rfl, Nat.le_of_ble_eq_true rfl⟩ hK hP rfl rfl rfl hl.1 rfl (Nat.le_of_ble_eq_true rfl) dX1_addSchool_38 ⟨Nat.zero_le _, Nat.zero_le _⟩ hS (fun _ h => h) (fun H locs hP hS _ _ => ?_)
    have hP : va_P D vwCl (mw κ b 2 v) H := hP
    exact hend _ _ _ _ dX1_addSchool_41 hP hS
  · refine lv_aload_n hx hb dX1_addSchool_29 rfl (lv_at hl 0 rfl) ?_
    refine va_get (D := D) (ci := 1) (v := .int (nI (vs_t v))) (C := RX1) (T := TX1) (N := 8) hx hb hts i_X1 hown hK hP 0 rfl rfl 3 (by decide) (hts _ q_f_X1_33) (fun _ h9 => h9) rfl dX1_addSchool_30 ?_
    refine nv_if_le (tgt := 42) hx hb dX1_addSchool_33 (by decide) (by omega) (fun z => absurd z (by omega)) (fun c_33 => ?_)
    refine lv_aload_n hx hb dX1_addSchool_36 rfl (lv_at hl 0 rfl) ?_
    refine lv_iconst (v := nI (2)) hx hb dX1_addSchool_37 (by decide) ?_
    refine wr_V (rest := []) ⟨hx, hb, hml, hown, hts⟩ (c_X1_fail_ok l D κ b 0 v hv hap (2) (by omega)) g_X1_73 n_X1_fail ⟨Nat.le_of_ble_eq_true rfl, Nat.le_of_ble_eq_true rfl⟩ hK hP rfl rfl rfl hl.1 rfl (Nat.le_of_ble_eq_true rfl) dX1_addSchool_38 ⟨Nat.zero_le _, Nat.zero_le _⟩ hS (fun _ h => h) (fun H locs hP hS _ _ => ?_)
    have hP : va_P D vwCl (mw κ b 2 v) H := hP
    exact hend _ _ _ _ dX1_addSchool_41 hP hS
set_option maxHeartbeats 4000000 in
set_option maxRecDepth 100000 in
theorem c_X1_addSchool_ok (l : Launch) (D : va_G) (κ : Nat → ClassId) (b : Nat → Nat) (u : Nat) (v : VS) (hv : ok_v v) (hap : ap_ b 4) (t_ : Nat) (ht0 : 1 ≤ t_) (ht : t_ ≤ 9) (hc8 : vs_n v < 4) (h0 : vs_t v = 0) (hu : un_ v) : Wr l yX1_addSchool cX1_addSchool 3 (some .int) 1 22 (Pw D (kt_ κ) (mw κ b u v) [.ref (b 0), .int (nI (t_))]) D (mw κ b 0 (nx_addSchool v t_)) (ma_ b) (some (.int (nI (vs_n v)))) := by
  refine wr_intro (own := RX1) (by decide +kernel) rfl (Nat.le_of_ble_eq_true rfl) (fun p e s m args below meth c pc ls H locs hx hb hr hlk d h1 h2 => rew_I hx hb hr hlk d h1 h2) ?_
  intro p e s m args below meth c ls Qq hx hb hml hown hts hK hP hS hend hl
  have hl : lv_has ls 3 [(0, .ref (b 0)), (1, .int (nI (t_)))] := hl
  obtain ⟨hv1, hv2, hv3, hv4, hv5, hv6⟩ := id hv
  have hP : va_P D vwCl (mw κ b u v) s.heap := hP
  refine lv_aload_n hx hb dX1_addSchool_0 rfl (lv_at hl 0 rfl) ?_
  refine lv_iconst (v := nI (0)) hx hb dX1_addSchool_1 (by decide) ?_
  refine va_put (D := D) (ci := 1) (v := .int (nI (0))) (ty := .int) (C := RX1) (T := TX1) (N := 8) hx hb hts i_X1 tyX1 tyX1_ok nmX1 hown hK hP (mx_D hap κ _ _ _ _ _ _ _ _) hS 0 rfl rfl 0 (by decide) (hts _ q_f_X1_19) (fun _ h9 => h9) rfl (by decide +kernel) rfl rfl (Nat.le_of_ble_eq_true rfl) dX1_addSchool_2 (fun H locs hP _ hS => ?_)
  have hP : va_P D vwCl (mw κ b 0 v) H := hP
  refine lv_iload_n hx hb dX1_addSchool_5 rfl (lv_at hl 1 rfl) ?_
  refine lv_iconst (v := nI (1)) hx hb dX1_addSchool_6 (by decide) ?_
  refine lv_bipush (v := nI (9)) hx hb dX1_addSchool_7 (by decide) ?_
  refine rd_S (rest := []) ⟨hx, hb, hml, hown, hts⟩ (c_X1_isIn l (nI (t_)) (nI (1)) (nI (9))) g_X1_26 n_X1_isIn ⟨Nat.le_of_ble_eq_true rfl, Nat.le_of_ble_eq_true rfl⟩ rfl hl.1 rfl (Nat.le_of_ble_eq_true rfl) dX1_addSchool_9 ⟨Nat.zero_le _, Nat.zero_le _⟩ ?_
  refine nv_topi (congrArg bI (show (ii_ (nI (t_)) (nI (1)) (nI (9)) : Bool) = true from by rw [ii_ir _ (by omega) (by omega)]; exact ir_nI (j := t_) (by omega) (by omega) (by omega))) ?_
  refine bv_if_ne (tgt := 21) hx hb dX1_addSchool_12 (by decide) (fun c_12 => ?_) (fun z => absurd z (by simp))
  refine lv_aload_n hx hb dX1_addSchool_21 rfl (lv_at hl 0 rfl) ?_
  refine va_get (D := D) (ci := 1) (v := .int (nI (vs_n v))) (C := RX1) (T := TX1) (N := 8) hx hb hts i_X1 hown hK hP 0 rfl rfl 2 (by decide) (hts _ q_f_X1_30) (fun _ h9 => h9) rfl dX1_addSchool_22 ?_
  refine lv_iconst (v := nI (4)) hx hb dX1_addSchool_25 (by decide) ?_
  refine nv_icmp_eq (tgt := 36) hx hb dX1_addSchool_26 (by decide) (by omega) (by omega) (fun z => absurd z (by omega)) (fun c_26 => ?_)
  refine lv_aload_n hx hb dX1_addSchool_29 rfl (lv_at hl 0 rfl) ?_
  refine va_get (D := D) (ci := 1) (v := .int (nI (vs_t v))) (C := RX1) (T := TX1) (N := 8) hx hb hts i_X1 hown hK hP 0 rfl rfl 3 (by decide) (hts _ q_f_X1_33) (fun _ h9 => h9) rfl dX1_addSchool_30 ?_
  refine nv_if_le (tgt := 42) hx hb dX1_addSchool_33 (by decide) (by omega) (fun c_33 => ?_) (fun z => absurd z (by omega))
  refine lv_aload_n hx hb dX1_addSchool_42 rfl (lv_at hl 0 rfl) ?_
  refine va_get (D := D) (ci := 1) (v := .ref (b 2)) (C := RX1) (T := TX1) (N := 8) hx hb hts i_X1 hown hK hP 0 rfl rfl 6 (by decide) (hts _ q_f_X1_13) (fun _ h9 => h9) rfl dX1_addSchool_43 ?_
  refine lv_aload_n hx hb dX1_addSchool_46 rfl (lv_at hl 0 rfl) ?_
  refine va_get (D := D) (ci := 1) (v := .int (nI (vs_n v))) (C := RX1) (T := TX1) (N := 8) hx hb hts i_X1 hown hK hP 0 rfl rfl 2 (by decide) (hts _ q_f_X1_30) (fun _ h9 => h9) rfl dX1_addSchool_47 ?_
  refine lv_iload_n hx hb dX1_addSchool_50 rfl (lv_at hl 1 rfl) ?_
  refine nv_iast hx hb hK hP (mx_D hap κ _ _ _ _ _ _ _ _) hS 2 0 (n := 4) (j := vs_n v) rfl rfl (by omega) (by decide) ms_so dX1_addSchool_51 (fun H locs hP hS => ?_)
  have hP : va_P D vwCl (mx_ κ b 0 (vs_c v) (vs_n v) (vs_t v) (rw_ v) (vs_ct v) (upN (vs_so v) (vs_n v) t_) (ms_ v)) H := hP
  refine lv_iconst (v := nI (0)) hx hb dX1_addSchool_52 (by decide) ?_
  refine lv_istore_n (lv' := [(2, .int (nI (0))), (0, .ref (b 0)), (1, .int (nI (t_)))]) hx hb dX1_addSchool_53 rfl hl (by decide) rfl (fun ls hl => ?_)
  suffices hloop_54 : ∀ (n_54 i : Nat) (ls : Array Slot) (H : Heap) (locs : List Loc), i + n_54 = vs_c v → lv_has ls 3 [(0, .ref (b 0)), (1, .int (nI (t_))), (2, .int (nI (i)))] → va_P D vwCl (mx_ κ b 0 (vs_c v) (vs_n v) (vs_t v) (rw_ v) (vs_ct v) (upN (vs_so v) (vs_n v) t_) (bs_ (ms_ v) (vs_n v) i)) H → va_S (ma_ b) s.heap H locs → W p l e (rm_ 1 22) s m args below meth c H locs 0 0 Qq (F0 m 54 ls []) from hloop_54 (vs_c v - 0) (0) ls H locs (by omega) (lv_sub hl [1, 2, 0] rfl) (by have e9 : mx_ κ b 0 (vs_c v) (vs_n v) (vs_t v) (rw_ v) (vs_ct v) (upN (vs_so v) (vs_n v) t_) (ms_ v) = mx_ κ b 0 (vs_c v) (vs_n v) (vs_t v) (rw_ v) (vs_ct v) (upN (vs_so v) (vs_n v) t_) (bs_ (ms_ v) (vs_n v) (0)) := (by rw [bs_0]); rw [← e9]; exact hP) hS
  intro n_54
  induction n_54 with
  | zero =>
    intro i ls H locs hin_54 hl hP hS
    have hi_54 : i = vs_c v := by omega
    refine lv_iload_n hx hb dX1_addSchool_54 rfl (lv_at hl 2 rfl) ?_
    refine lv_aload_n hx hb dX1_addSchool_55 rfl (lv_at hl 0 rfl) ?_
    refine va_get (D := D) (ci := 1) (v := .int (nI (vs_c v))) (C := RX1) (T := TX1) (N := 8) hx hb hts i_X1 hown hK hP 0 rfl rfl 1 (by decide) (hts _ q_f_X1_23) (fun _ h9 => h9) rfl dX1_addSchool_56 ?_
    refine nv_icmp_ge (tgt := 82) hx hb dX1_addSchool_59 (by decide) (by omega) (by omega) (fun c_59 => ?_) (fun z => absurd z (by omega))
    refine lv_aload_n hx hb dX1_addSchool_82 rfl (lv_at hl 0 rfl) ?_
    refine lv_dup hx hb dX1_addSchool_83 rfl ?_
    refine va_get (D := D) (ci := 1) (v := .int (nI (vs_n v))) (C := RX1) (T := TX1) (N := 8) hx hb hts i_X1 hown hK hP 0 rfl rfl 2 (by decide) (hts _ q_f_X1_30) (fun _ h9 => h9) rfl dX1_addSchool_84 ?_
    refine lv_iconst (v := nI (1)) hx hb dX1_addSchool_87 (by decide) ?_
    refine nv_iadd hx hb dX1_addSchool_88 rfl ?_
    refine va_put (D := D) (ci := 1) (v := .int (nI ((vs_n v) + 1))) (ty := .int) (C := RX1) (T := TX1) (N := 8) hx hb hts i_X1 tyX1 tyX1_ok nmX1 hown hK hP (mx_D hap κ _ _ _ _ _ _ _ _) hS 0 rfl rfl 2 (by decide) (hts _ q_f_X1_30) (fun _ h9 => h9) rfl (by decide +kernel) rfl rfl (Nat.le_of_ble_eq_true rfl) dX1_addSchool_89 (fun H locs hP _ hS => ?_)
    have hP : va_P D vwCl (mx_ κ b 0 (vs_c v) ((vs_n v) + 1) (vs_t v) (rw_ v) (vs_ct v) (upN (vs_so v) (vs_n v) t_) (bs_ (ms_ v) (vs_n v) i)) H := hP
    refine lv_aload_n hx hb dX1_addSchool_92 rfl (lv_at hl 0 rfl) ?_
    refine va_get (D := D) (ci := 1) (v := .int (nI ((vs_n v) + 1))) (C := RX1) (T := TX1) (N := 8) hx hb hts i_X1 hown hK hP 0 rfl rfl 2 (by decide) (hts _ q_f_X1_30) (fun _ h9 => h9) rfl dX1_addSchool_93 ?_
    refine lv_iconst (v := nI (1)) hx hb dX1_addSchool_96 (by decide) ?_
    refine nv_isub (r := ((vs_n v) + 1) - 1) hx hb dX1_addSchool_97 (by omega) ?_
    have hP : va_P D vwCl (mw κ b 0 (nx_addSchool v t_)) H := by
      have e9 : mx_ κ b 0 (vs_c v) ((vs_n v) + 1) (vs_t v) (rw_ v) (vs_ct v) (upN (vs_so v) (vs_n v) t_) (bs_ (ms_ v) (vs_n v) i) = mw κ b 0 (nx_addSchool v t_) := by rw [hi_54, ms_addSchool hu t_]; rfl
      rw [← e9]
      exact hP
    refine nv_topi (congrArg nI (show (((vs_n v) + 1) - 1 : Nat) = vs_n v from by first | rfl | omega)) ?_
    exact hend _ _ _ _ dX1_addSchool_98 hP hS
  | succ n_54 ih_54 =>
    intro i ls H locs hin_54 hl hP hS
    refine lv_iload_n hx hb dX1_addSchool_54 rfl (lv_at hl 2 rfl) ?_
    refine lv_aload_n hx hb dX1_addSchool_55 rfl (lv_at hl 0 rfl) ?_
    refine va_get (D := D) (ci := 1) (v := .int (nI (vs_c v))) (C := RX1) (T := TX1) (N := 8) hx hb hts i_X1 hown hK hP 0 rfl rfl 1 (by decide) (hts _ q_f_X1_23) (fun _ h9 => h9) rfl dX1_addSchool_56 ?_
    refine nv_icmp_ge (tgt := 82) hx hb dX1_addSchool_59 (by decide) (by omega) (by omega) (fun z => absurd z (by omega)) (fun c_59 => ?_)
    refine lv_aload_n hx hb dX1_addSchool_62 rfl (lv_at hl 0 rfl) ?_
    refine va_get (D := D) (ci := 1) (v := .ref (b 3)) (C := RX1) (T := TX1) (N := 8) hx hb hts i_X1 hown hK hP 0 rfl rfl 7 (by decide) (hts _ q_f_X1_16) (fun _ h9 => h9) rfl dX1_addSchool_63 ?_
    refine lv_iconst (v := nI (4)) hx hb dX1_addSchool_66 (by decide) ?_
    refine lv_iload_n hx hb dX1_addSchool_67 rfl (lv_at hl 2 rfl) ?_
    refine nv_imul hx hb dX1_addSchool_68 rfl ?_
    refine lv_aload_n hx hb dX1_addSchool_69 rfl (lv_at hl 0 rfl) ?_
    refine va_get (D := D) (ci := 1) (v := .int (nI (vs_n v))) (C := RX1) (T := TX1) (N := 8) hx hb hts i_X1 hown hK hP 0 rfl rfl 2 (by decide) (hts _ q_f_X1_30) (fun _ h9 => h9) rfl dX1_addSchool_70 ?_
    refine nv_iadd hx hb dX1_addSchool_73 rfl ?_
    refine lv_iconst (v := nI (1)) hx hb dX1_addSchool_74 (by decide) ?_
    refine nv_iast hx hb hK hP (mx_D hap κ _ _ _ _ _ _ _ _) hS 3 0 (n := 32) (j := (4 * i) + (vs_n v)) rfl rfl (by omega) (by decide) ms_ms dX1_addSchool_75 (fun H locs hP hS => ?_)
    have hP : va_P D vwCl (mx_ κ b 0 (vs_c v) (vs_n v) (vs_t v) (rw_ v) (vs_ct v) (upN (vs_so v) (vs_n v) t_) (upN (bs_ (ms_ v) (vs_n v) i) ((4 * i) + (vs_n v)) 1)) H := hP
    refine lv_iinc (v := nI (i + 1)) (lv' := [(2, .int (nI (i + 1))), (0, .ref (b 0)), (1, .int (nI (t_)))]) hx hb dX1_addSchool_76 hl (k := 2) rfl (nI_add _ _) (by decide) rfl (fun ls hl => ?_)
    refine lv_goto (tgt := 54) hx hb dX1_addSchool_79 (by decide) ?_
    exact ih_54 (i + 1) ls _ _ (by omega) (lv_cast (k := [(0, .ref (b 0)), (1, .int (nI (t_))), (2, .int (nI (i + 1)))]) (lv_sub hl [1, 2, 0] rfl) (lc_cons rfl (lc_cons rfl (lc_cons (congrArg (fun z : Nat => ((2 : Nat), Value.int (nI z))) (show (i + 1 : Nat) = (i + 1) from by first | rfl | omega)) rfl)))) (by have e9 : mx_ κ b 0 (vs_c v) (vs_n v) (vs_t v) (rw_ v) (vs_ct v) (upN (vs_so v) (vs_n v) t_) (upN (bs_ (ms_ v) (vs_n v) i) ((4 * i) + (vs_n v)) 1) = mx_ κ b 0 (vs_c v) (vs_n v) (vs_t v) (rw_ v) (vs_ct v) (upN (vs_so v) (vs_n v) t_) (bs_ (ms_ v) (vs_n v) (i + 1)) := (by rw [bs_s _ hc8]); rw [← e9]; exact hP) hS
set_option maxHeartbeats 4000000 in
set_option maxRecDepth 100000 in
theorem c_X1_setShare_x1 (l : Launch) (D : va_G) (κ : Nat → ClassId) (b : Nat → Nat) (u : Nat) (v : VS) (hv : ok_v v) (hap : ap_ b 4) (x : Int32) (y : Int32) (z : Int32) (hx0 : ix_ x (vs_n v) = false) : Wr l yX1_setShare cX1_setShare 5 (some .int) 2 43 (Pw D (kt_ κ) (mw κ b u v) [.ref (b 0), .int (x), .int (y), .int (z)]) D (mw κ b 1 v) (ma_ b) (some (.int (nI (0)))) := by
  refine wr_intro (own := RX1) (by decide +kernel) rfl (Nat.le_of_ble_eq_true rfl) (fun p e s m args below meth c pc ls H locs hx hb hr hlk d h1 h2 => rew_I hx hb hr hlk d h1 h2) ?_
  intro p e s m args below meth c ls Qq hx hb hml hown hts hK hP hS hend hl
  have hl : lv_has ls 5 [(0, .ref (b 0)), (1, .int (x)), (2, .int (y)), (3, .int (z))] := hl
  obtain ⟨hv1, hv2, hv3, hv4, hv5, hv6⟩ := id hv
  have hP : va_P D vwCl (mw κ b u v) s.heap := hP
  refine lv_aload_n hx hb dX1_setShare_0 rfl (lv_at hl 0 rfl) ?_
  refine lv_iconst (v := nI (0)) hx hb dX1_setShare_1 (by decide) ?_
  refine va_put (D := D) (ci := 1) (v := .int (nI (0))) (ty := .int) (C := RX1) (T := TX1) (N := 8) hx hb hts i_X1 tyX1 tyX1_ok nmX1 hown hK hP (mx_D hap κ _ _ _ _ _ _ _ _) hS 0 rfl rfl 0 (by decide) (hts _ q_f_X1_19) (fun _ h9 => h9) rfl (by decide +kernel) rfl rfl (Nat.le_of_ble_eq_true rfl) dX1_setShare_2 (fun H locs hP _ hS => ?_)
  have hP : va_P D vwCl (mw κ b 0 v) H := hP
  refine lv_aload_n hx hb dX1_setShare_5 rfl (lv_at hl 0 rfl) ?_
  refine lv_iload_n hx hb dX1_setShare_6 rfl (lv_at hl 1 rfl) ?_
  refine rd_V (rest := []) ⟨hx, hb, hml, hown, hts⟩ (c_X1_isSchool l D κ b 0 v hv (x)) g_X1_76 n_X1_isSchool ⟨Nat.le_of_ble_eq_true rfl, Nat.le_of_ble_eq_true rfl⟩ hK hP rfl rfl rfl hl.1 rfl (Nat.le_of_ble_eq_true rfl) dX1_setShare_7 ⟨Nat.zero_le _, Nat.zero_le _⟩ ?_
  refine bv_if_eq (tgt := 21) hx hb dX1_setShare_10 (by decide) (fun c_10 => ?_) (fun z => absurd z (by simp [hx0]))
  refine lv_aload_n hx hb dX1_setShare_21 rfl (lv_at hl 0 rfl) ?_
  refine lv_iconst (v := nI (1)) hx hb dX1_setShare_22 (by decide) ?_
  refine wr_V (rest := []) ⟨hx, hb, hml, hown, hts⟩ (c_X1_fail_ok l D κ b 0 v hv hap (1) (by omega)) g_X1_73 n_X1_fail ⟨Nat.le_of_ble_eq_true rfl, Nat.le_of_ble_eq_true rfl⟩ hK hP rfl rfl rfl hl.1 rfl (Nat.le_of_ble_eq_true rfl) dX1_setShare_23 ⟨Nat.zero_le _, Nat.zero_le _⟩ hS (fun _ h => h) (fun H locs hP hS _ _ => ?_)
  have hP : va_P D vwCl (mw κ b 1 v) H := hP
  exact hend _ _ _ _ dX1_setShare_26 hP hS
set_option maxHeartbeats 4000000 in
set_option maxRecDepth 100000 in
theorem c_X1_setShare_x2 (l : Launch) (D : va_G) (κ : Nat → ClassId) (b : Nat → Nat) (u : Nat) (v : VS) (hv : ok_v v) (hap : ap_ b 4) (s_ : Nat) (y : Int32) (z : Int32) (hs : s_ < vs_n v) (hx0 : ix_ y (vs_c v) = false) : Wr l yX1_setShare cX1_setShare 5 (some .int) 2 43 (Pw D (kt_ κ) (mw κ b u v) [.ref (b 0), .int (nI (s_)), .int (y), .int (z)]) D (mw κ b 1 v) (ma_ b) (some (.int (nI (0)))) := by
  refine wr_intro (own := RX1) (by decide +kernel) rfl (Nat.le_of_ble_eq_true rfl) (fun p e s m args below meth c pc ls H locs hx hb hr hlk d h1 h2 => rew_I hx hb hr hlk d h1 h2) ?_
  intro p e s m args below meth c ls Qq hx hb hml hown hts hK hP hS hend hl
  have hl : lv_has ls 5 [(0, .ref (b 0)), (1, .int (nI (s_))), (2, .int (y)), (3, .int (z))] := hl
  obtain ⟨hv1, hv2, hv3, hv4, hv5, hv6⟩ := id hv
  have hP : va_P D vwCl (mw κ b u v) s.heap := hP
  refine lv_aload_n hx hb dX1_setShare_0 rfl (lv_at hl 0 rfl) ?_
  refine lv_iconst (v := nI (0)) hx hb dX1_setShare_1 (by decide) ?_
  refine va_put (D := D) (ci := 1) (v := .int (nI (0))) (ty := .int) (C := RX1) (T := TX1) (N := 8) hx hb hts i_X1 tyX1 tyX1_ok nmX1 hown hK hP (mx_D hap κ _ _ _ _ _ _ _ _) hS 0 rfl rfl 0 (by decide) (hts _ q_f_X1_19) (fun _ h9 => h9) rfl (by decide +kernel) rfl rfl (Nat.le_of_ble_eq_true rfl) dX1_setShare_2 (fun H locs hP _ hS => ?_)
  have hP : va_P D vwCl (mw κ b 0 v) H := hP
  refine lv_aload_n hx hb dX1_setShare_5 rfl (lv_at hl 0 rfl) ?_
  refine lv_iload_n hx hb dX1_setShare_6 rfl (lv_at hl 1 rfl) ?_
  refine rd_V (rest := []) ⟨hx, hb, hml, hown, hts⟩ (c_X1_isSchool l D κ b 0 v hv (nI (s_))) g_X1_76 n_X1_isSchool ⟨Nat.le_of_ble_eq_true rfl, Nat.le_of_ble_eq_true rfl⟩ hK hP rfl rfl rfl hl.1 rfl (Nat.le_of_ble_eq_true rfl) dX1_setShare_7 ⟨Nat.zero_le _, Nat.zero_le _⟩ ?_
  refine nv_topi (congrArg bI (show (ix_ (nI (s_)) (vs_n v) : Bool) = true from by exact ix_nI (j := s_) (by omega) (by omega))) ?_
  refine bv_if_eq (tgt := 21) hx hb dX1_setShare_10 (by decide) (fun z => absurd z (by simp)) (fun c_10 => ?_)
  refine lv_aload_n hx hb dX1_setShare_13 rfl (lv_at hl 0 rfl) ?_
  refine lv_iload_n hx hb dX1_setShare_14 rfl (lv_at hl 2 rfl) ?_
  refine rd_V (rest := []) ⟨hx, hb, hml, hown, hts⟩ (c_X1_isCoin l D κ b 0 v hv (y)) g_X1_80 n_X1_isCoin ⟨Nat.le_of_ble_eq_true rfl, Nat.le_of_ble_eq_true rfl⟩ hK hP rfl rfl rfl hl.1 rfl (Nat.le_of_ble_eq_true rfl) dX1_setShare_15 ⟨Nat.zero_le _, Nat.zero_le _⟩ ?_
  refine bv_if_ne (tgt := 27) hx hb dX1_setShare_18 (by decide) (fun z => absurd z (by simp [hx0])) (fun c_18 => ?_)
  refine lv_aload_n hx hb dX1_setShare_21 rfl (lv_at hl 0 rfl) ?_
  refine lv_iconst (v := nI (1)) hx hb dX1_setShare_22 (by decide) ?_
  refine wr_V (rest := []) ⟨hx, hb, hml, hown, hts⟩ (c_X1_fail_ok l D κ b 0 v hv hap (1) (by omega)) g_X1_73 n_X1_fail ⟨Nat.le_of_ble_eq_true rfl, Nat.le_of_ble_eq_true rfl⟩ hK hP rfl rfl rfl hl.1 rfl (Nat.le_of_ble_eq_true rfl) dX1_setShare_23 ⟨Nat.zero_le _, Nat.zero_le _⟩ hS (fun _ h => h) (fun H locs hP hS _ _ => ?_)
  have hP : va_P D vwCl (mw κ b 1 v) H := hP
  exact hend _ _ _ _ dX1_setShare_26 hP hS
set_option maxHeartbeats 4000000 in
set_option maxRecDepth 100000 in
theorem c_X1_setShare_x3 (l : Launch) (D : va_G) (κ : Nat → ClassId) (b : Nat → Nat) (u : Nat) (v : VS) (hv : ok_v v) (hap : ap_ b 4) (s_ : Nat) (c_ : Nat) (z : Int32) (hs : s_ < vs_n v) (hc : c_ < vs_c v) (hx0 : ir_ z 0 9 = false) : Wr l yX1_setShare cX1_setShare 5 (some .int) 2 43 (Pw D (kt_ κ) (mw κ b u v) [.ref (b 0), .int (nI (s_)), .int (nI (c_)), .int (z)]) D (mw κ b 2 v) (ma_ b) (some (.int (nI (0)))) := by
  refine wr_intro (own := RX1) (by decide +kernel) rfl (Nat.le_of_ble_eq_true rfl) (fun p e s m args below meth c pc ls H locs hx hb hr hlk d h1 h2 => rew_I hx hb hr hlk d h1 h2) ?_
  intro p e s m args below meth c ls Qq hx hb hml hown hts hK hP hS hend hl
  have hl : lv_has ls 5 [(0, .ref (b 0)), (1, .int (nI (s_))), (2, .int (nI (c_))), (3, .int (z))] := hl
  obtain ⟨hv1, hv2, hv3, hv4, hv5, hv6⟩ := id hv
  have hP : va_P D vwCl (mw κ b u v) s.heap := hP
  refine lv_aload_n hx hb dX1_setShare_0 rfl (lv_at hl 0 rfl) ?_
  refine lv_iconst (v := nI (0)) hx hb dX1_setShare_1 (by decide) ?_
  refine va_put (D := D) (ci := 1) (v := .int (nI (0))) (ty := .int) (C := RX1) (T := TX1) (N := 8) hx hb hts i_X1 tyX1 tyX1_ok nmX1 hown hK hP (mx_D hap κ _ _ _ _ _ _ _ _) hS 0 rfl rfl 0 (by decide) (hts _ q_f_X1_19) (fun _ h9 => h9) rfl (by decide +kernel) rfl rfl (Nat.le_of_ble_eq_true rfl) dX1_setShare_2 (fun H locs hP _ hS => ?_)
  have hP : va_P D vwCl (mw κ b 0 v) H := hP
  refine lv_aload_n hx hb dX1_setShare_5 rfl (lv_at hl 0 rfl) ?_
  refine lv_iload_n hx hb dX1_setShare_6 rfl (lv_at hl 1 rfl) ?_
  refine rd_V (rest := []) ⟨hx, hb, hml, hown, hts⟩ (c_X1_isSchool l D κ b 0 v hv (nI (s_))) g_X1_76 n_X1_isSchool ⟨Nat.le_of_ble_eq_true rfl, Nat.le_of_ble_eq_true rfl⟩ hK hP rfl rfl rfl hl.1 rfl (Nat.le_of_ble_eq_true rfl) dX1_setShare_7 ⟨Nat.zero_le _, Nat.zero_le _⟩ ?_
  refine nv_topi (congrArg bI (show (ix_ (nI (s_)) (vs_n v) : Bool) = true from by exact ix_nI (j := s_) (by omega) (by omega))) ?_
  refine bv_if_eq (tgt := 21) hx hb dX1_setShare_10 (by decide) (fun z => absurd z (by simp)) (fun c_10 => ?_)
  refine lv_aload_n hx hb dX1_setShare_13 rfl (lv_at hl 0 rfl) ?_
  refine lv_iload_n hx hb dX1_setShare_14 rfl (lv_at hl 2 rfl) ?_
  refine rd_V (rest := []) ⟨hx, hb, hml, hown, hts⟩ (c_X1_isCoin l D κ b 0 v hv (nI (c_))) g_X1_80 n_X1_isCoin ⟨Nat.le_of_ble_eq_true rfl, Nat.le_of_ble_eq_true rfl⟩ hK hP rfl rfl rfl hl.1 rfl (Nat.le_of_ble_eq_true rfl) dX1_setShare_15 ⟨Nat.zero_le _, Nat.zero_le _⟩ ?_
  refine nv_topi (congrArg bI (show (ix_ (nI (c_)) (vs_c v) : Bool) = true from by exact ix_nI (j := c_) (by omega) (by omega))) ?_
  refine bv_if_ne (tgt := 27) hx hb dX1_setShare_18 (by decide) (fun c_18 => ?_) (fun z => absurd z (by simp))
  refine lv_iload_n hx hb dX1_setShare_27 rfl (lv_at hl 3 rfl) ?_
  refine lv_iconst (v := nI (0)) hx hb dX1_setShare_28 (by decide) ?_
  refine lv_bipush (v := nI (9)) hx hb dX1_setShare_29 (by decide) ?_
  refine rd_S (rest := []) ⟨hx, hb, hml, hown, hts⟩ (c_X1_isIn l (z) (nI (0)) (nI (9))) g_X1_26 n_X1_isIn ⟨Nat.le_of_ble_eq_true rfl, Nat.le_of_ble_eq_true rfl⟩ rfl hl.1 rfl (Nat.le_of_ble_eq_true rfl) dX1_setShare_31 ⟨Nat.zero_le _, Nat.zero_le _⟩ ?_
  refine nv_topi (congrArg bI (show (ii_ z (nI (0)) (nI (9)) : Bool) = ir_ z 0 9 from by exact ii_ir z (by omega) (by omega))) ?_
  refine bv_if_ne (tgt := 43) hx hb dX1_setShare_34 (by decide) (fun z => absurd z (by simp [hx0])) (fun c_34 => ?_)
  refine lv_aload_n hx hb dX1_setShare_37 rfl (lv_at hl 0 rfl) ?_
  refine lv_iconst (v := nI (2)) hx hb dX1_setShare_38 (by decide) ?_
  refine wr_V (rest := []) ⟨hx, hb, hml, hown, hts⟩ (c_X1_fail_ok l D κ b 0 v hv hap (2) (by omega)) g_X1_73 n_X1_fail ⟨Nat.le_of_ble_eq_true rfl, Nat.le_of_ble_eq_true rfl⟩ hK hP rfl rfl rfl hl.1 rfl (Nat.le_of_ble_eq_true rfl) dX1_setShare_39 ⟨Nat.zero_le _, Nat.zero_le _⟩ hS (fun _ h => h) (fun H locs hP hS _ _ => ?_)
  have hP : va_P D vwCl (mw κ b 2 v) H := hP
  exact hend _ _ _ _ dX1_setShare_42 hP hS
set_option maxHeartbeats 4000000 in
set_option maxRecDepth 100000 in
theorem c_X1_setShare_x4 (l : Launch) (D : va_G) (κ : Nat → ClassId) (b : Nat → Nat) (u : Nat) (v : VS) (hv : ok_v v) (hap : ap_ b 4) (s_ : Nat) (c_ : Nat) (x_ : Nat) (hs : s_ < vs_n v) (hc : c_ < vs_c v) (hx9 : x_ ≤ 9) (hz : 0 < vs_t v) : Wr l yX1_setShare cX1_setShare 5 (some .int) 2 43 (Pw D (kt_ κ) (mw κ b u v) [.ref (b 0), .int (nI (s_)), .int (nI (c_)), .int (nI (x_))]) D (mw κ b 3 v) (ma_ b) (some (.int (nI (0)))) := by
  refine wr_intro (own := RX1) (by decide +kernel) rfl (Nat.le_of_ble_eq_true rfl) (fun p e s m args below meth c pc ls H locs hx hb hr hlk d h1 h2 => rew_I hx hb hr hlk d h1 h2) ?_
  intro p e s m args below meth c ls Qq hx hb hml hown hts hK hP hS hend hl
  have hl : lv_has ls 5 [(0, .ref (b 0)), (1, .int (nI (s_))), (2, .int (nI (c_))), (3, .int (nI (x_)))] := hl
  obtain ⟨hv1, hv2, hv3, hv4, hv5, hv6⟩ := id hv
  have hP : va_P D vwCl (mw κ b u v) s.heap := hP
  refine lv_aload_n hx hb dX1_setShare_0 rfl (lv_at hl 0 rfl) ?_
  refine lv_iconst (v := nI (0)) hx hb dX1_setShare_1 (by decide) ?_
  refine va_put (D := D) (ci := 1) (v := .int (nI (0))) (ty := .int) (C := RX1) (T := TX1) (N := 8) hx hb hts i_X1 tyX1 tyX1_ok nmX1 hown hK hP (mx_D hap κ _ _ _ _ _ _ _ _) hS 0 rfl rfl 0 (by decide) (hts _ q_f_X1_19) (fun _ h9 => h9) rfl (by decide +kernel) rfl rfl (Nat.le_of_ble_eq_true rfl) dX1_setShare_2 (fun H locs hP _ hS => ?_)
  have hP : va_P D vwCl (mw κ b 0 v) H := hP
  refine lv_aload_n hx hb dX1_setShare_5 rfl (lv_at hl 0 rfl) ?_
  refine lv_iload_n hx hb dX1_setShare_6 rfl (lv_at hl 1 rfl) ?_
  refine rd_V (rest := []) ⟨hx, hb, hml, hown, hts⟩ (c_X1_isSchool l D κ b 0 v hv (nI (s_))) g_X1_76 n_X1_isSchool ⟨Nat.le_of_ble_eq_true rfl, Nat.le_of_ble_eq_true rfl⟩ hK hP rfl rfl rfl hl.1 rfl (Nat.le_of_ble_eq_true rfl) dX1_setShare_7 ⟨Nat.zero_le _, Nat.zero_le _⟩ ?_
  refine nv_topi (congrArg bI (show (ix_ (nI (s_)) (vs_n v) : Bool) = true from by exact ix_nI (j := s_) (by omega) (by omega))) ?_
  refine bv_if_eq (tgt := 21) hx hb dX1_setShare_10 (by decide) (fun z => absurd z (by simp)) (fun c_10 => ?_)
  refine lv_aload_n hx hb dX1_setShare_13 rfl (lv_at hl 0 rfl) ?_
  refine lv_iload_n hx hb dX1_setShare_14 rfl (lv_at hl 2 rfl) ?_
  refine rd_V (rest := []) ⟨hx, hb, hml, hown, hts⟩ (c_X1_isCoin l D κ b 0 v hv (nI (c_))) g_X1_80 n_X1_isCoin ⟨Nat.le_of_ble_eq_true rfl, Nat.le_of_ble_eq_true rfl⟩ hK hP rfl rfl rfl hl.1 rfl (Nat.le_of_ble_eq_true rfl) dX1_setShare_15 ⟨Nat.zero_le _, Nat.zero_le _⟩ ?_
  refine nv_topi (congrArg bI (show (ix_ (nI (c_)) (vs_c v) : Bool) = true from by exact ix_nI (j := c_) (by omega) (by omega))) ?_
  refine bv_if_ne (tgt := 27) hx hb dX1_setShare_18 (by decide) (fun c_18 => ?_) (fun z => absurd z (by simp))
  refine lv_iload_n hx hb dX1_setShare_27 rfl (lv_at hl 3 rfl) ?_
  refine lv_iconst (v := nI (0)) hx hb dX1_setShare_28 (by decide) ?_
  refine lv_bipush (v := nI (9)) hx hb dX1_setShare_29 (by decide) ?_
  refine rd_S (rest := []) ⟨hx, hb, hml, hown, hts⟩ (c_X1_isIn l (nI (x_)) (nI (0)) (nI (9))) g_X1_26 n_X1_isIn ⟨Nat.le_of_ble_eq_true rfl, Nat.le_of_ble_eq_true rfl⟩ rfl hl.1 rfl (Nat.le_of_ble_eq_true rfl) dX1_setShare_31 ⟨Nat.zero_le _, Nat.zero_le _⟩ ?_
  refine nv_topi (congrArg bI (show (ii_ (nI (x_)) (nI (0)) (nI (9)) : Bool) = true from by rw [ii_ir _ (by omega) (by omega)]; exact ir_nI (j := x_) (by omega) (by omega) (by omega))) ?_
  refine bv_if_ne (tgt := 43) hx hb dX1_setShare_34 (by decide) (fun c_34 => ?_) (fun z => absurd z (by simp))
  refine lv_aload_n hx hb dX1_setShare_43 rfl (lv_at hl 0 rfl) ?_
  refine va_get (D := D) (ci := 1) (v := .int (nI (vs_t v))) (C := RX1) (T := TX1) (N := 8) hx hb hts i_X1 hown hK hP 0 rfl rfl 3 (by decide) (hts _ q_f_X1_33) (fun _ h9 => h9) rfl dX1_setShare_44 ?_
  refine nv_if_le (tgt := 56) hx hb dX1_setShare_47 (by decide) (by omega) (fun z => absurd z (by omega)) (fun c_47 => ?_)
  refine lv_aload_n hx hb dX1_setShare_50 rfl (lv_at hl 0 rfl) ?_
  refine lv_iconst (v := nI (3)) hx hb dX1_setShare_51 (by decide) ?_
  refine wr_V (rest := []) ⟨hx, hb, hml, hown, hts⟩ (c_X1_fail_ok l D κ b 0 v hv hap (3) (by omega)) g_X1_73 n_X1_fail ⟨Nat.le_of_ble_eq_true rfl, Nat.le_of_ble_eq_true rfl⟩ hK hP rfl rfl rfl hl.1 rfl (Nat.le_of_ble_eq_true rfl) dX1_setShare_52 ⟨Nat.zero_le _, Nat.zero_le _⟩ hS (fun _ h => h) (fun H locs hP hS _ _ => ?_)
  have hP : va_P D vwCl (mw κ b 3 v) H := hP
  exact hend _ _ _ _ dX1_setShare_55 hP hS
set_option maxHeartbeats 4000000 in
set_option maxRecDepth 100000 in
theorem c_X1_setShare_ok (l : Launch) (D : va_G) (κ : Nat → ClassId) (b : Nat → Nat) (u : Nat) (v : VS) (hv : ok_v v) (hap : ap_ b 4) (s_ : Nat) (c_ : Nat) (x_ : Nat) (hs : s_ < vs_n v) (hc : c_ < vs_c v) (hx9 : x_ ≤ 9) (h0 : vs_t v = 0) : Wr l yX1_setShare cX1_setShare 5 (some .int) 2 43 (Pw D (kt_ κ) (mw κ b u v) [.ref (b 0), .int (nI (s_)), .int (nI (c_)), .int (nI (x_))]) D (mw κ b 0 (nx_setShare v s_ c_ x_)) (ma_ b) (some (.int (nI (vs_sh v s_ c_)))) := by
  refine wr_intro (own := RX1) (by decide +kernel) rfl (Nat.le_of_ble_eq_true rfl) (fun p e s m args below meth c pc ls H locs hx hb hr hlk d h1 h2 => rew_I hx hb hr hlk d h1 h2) ?_
  intro p e s m args below meth c ls Qq hx hb hml hown hts hK hP hS hend hl
  have hl : lv_has ls 5 [(0, .ref (b 0)), (1, .int (nI (s_))), (2, .int (nI (c_))), (3, .int (nI (x_)))] := hl
  obtain ⟨hv1, hv2, hv3, hv4, hv5, hv6⟩ := id hv
  have hP : va_P D vwCl (mw κ b u v) s.heap := hP
  refine lv_aload_n hx hb dX1_setShare_0 rfl (lv_at hl 0 rfl) ?_
  refine lv_iconst (v := nI (0)) hx hb dX1_setShare_1 (by decide) ?_
  refine va_put (D := D) (ci := 1) (v := .int (nI (0))) (ty := .int) (C := RX1) (T := TX1) (N := 8) hx hb hts i_X1 tyX1 tyX1_ok nmX1 hown hK hP (mx_D hap κ _ _ _ _ _ _ _ _) hS 0 rfl rfl 0 (by decide) (hts _ q_f_X1_19) (fun _ h9 => h9) rfl (by decide +kernel) rfl rfl (Nat.le_of_ble_eq_true rfl) dX1_setShare_2 (fun H locs hP _ hS => ?_)
  have hP : va_P D vwCl (mw κ b 0 v) H := hP
  refine lv_aload_n hx hb dX1_setShare_5 rfl (lv_at hl 0 rfl) ?_
  refine lv_iload_n hx hb dX1_setShare_6 rfl (lv_at hl 1 rfl) ?_
  refine rd_V (rest := []) ⟨hx, hb, hml, hown, hts⟩ (c_X1_isSchool l D κ b 0 v hv (nI (s_))) g_X1_76 n_X1_isSchool ⟨Nat.le_of_ble_eq_true rfl, Nat.le_of_ble_eq_true rfl⟩ hK hP rfl rfl rfl hl.1 rfl (Nat.le_of_ble_eq_true rfl) dX1_setShare_7 ⟨Nat.zero_le _, Nat.zero_le _⟩ ?_
  refine nv_topi (congrArg bI (show (ix_ (nI (s_)) (vs_n v) : Bool) = true from by exact ix_nI (j := s_) (by omega) (by omega))) ?_
  refine bv_if_eq (tgt := 21) hx hb dX1_setShare_10 (by decide) (fun z => absurd z (by simp)) (fun c_10 => ?_)
  refine lv_aload_n hx hb dX1_setShare_13 rfl (lv_at hl 0 rfl) ?_
  refine lv_iload_n hx hb dX1_setShare_14 rfl (lv_at hl 2 rfl) ?_
  refine rd_V (rest := []) ⟨hx, hb, hml, hown, hts⟩ (c_X1_isCoin l D κ b 0 v hv (nI (c_))) g_X1_80 n_X1_isCoin ⟨Nat.le_of_ble_eq_true rfl, Nat.le_of_ble_eq_true rfl⟩ hK hP rfl rfl rfl hl.1 rfl (Nat.le_of_ble_eq_true rfl) dX1_setShare_15 ⟨Nat.zero_le _, Nat.zero_le _⟩ ?_
  refine nv_topi (congrArg bI (show (ix_ (nI (c_)) (vs_c v) : Bool) = true from by exact ix_nI (j := c_) (by omega) (by omega))) ?_
  refine bv_if_ne (tgt := 27) hx hb dX1_setShare_18 (by decide) (fun c_18 => ?_) (fun z => absurd z (by simp))
  refine lv_iload_n hx hb dX1_setShare_27 rfl (lv_at hl 3 rfl) ?_
  refine lv_iconst (v := nI (0)) hx hb dX1_setShare_28 (by decide) ?_
  refine lv_bipush (v := nI (9)) hx hb dX1_setShare_29 (by decide) ?_
  refine rd_S (rest := []) ⟨hx, hb, hml, hown, hts⟩ (c_X1_isIn l (nI (x_)) (nI (0)) (nI (9))) g_X1_26 n_X1_isIn ⟨Nat.le_of_ble_eq_true rfl, Nat.le_of_ble_eq_true rfl⟩ rfl hl.1 rfl (Nat.le_of_ble_eq_true rfl) dX1_setShare_31 ⟨Nat.zero_le _, Nat.zero_le _⟩ ?_
  refine nv_topi (congrArg bI (show (ii_ (nI (x_)) (nI (0)) (nI (9)) : Bool) = true from by rw [ii_ir _ (by omega) (by omega)]; exact ir_nI (j := x_) (by omega) (by omega) (by omega))) ?_
  refine bv_if_ne (tgt := 43) hx hb dX1_setShare_34 (by decide) (fun c_34 => ?_) (fun z => absurd z (by simp))
  refine lv_aload_n hx hb dX1_setShare_43 rfl (lv_at hl 0 rfl) ?_
  refine va_get (D := D) (ci := 1) (v := .int (nI (vs_t v))) (C := RX1) (T := TX1) (N := 8) hx hb hts i_X1 hown hK hP 0 rfl rfl 3 (by decide) (hts _ q_f_X1_33) (fun _ h9 => h9) rfl dX1_setShare_44 ?_
  refine nv_if_le (tgt := 56) hx hb dX1_setShare_47 (by decide) (by omega) (fun c_47 => ?_) (fun z => absurd z (by omega))
  refine lv_aload_n hx hb dX1_setShare_56 rfl (lv_at hl 0 rfl) ?_
  refine va_get (D := D) (ci := 1) (v := .ref (b 3)) (C := RX1) (T := TX1) (N := 8) hx hb hts i_X1 hown hK hP 0 rfl rfl 7 (by decide) (hts _ q_f_X1_16) (fun _ h9 => h9) rfl dX1_setShare_57 ?_
  refine lv_iconst (v := nI (4)) hx hb dX1_setShare_60 (by decide) ?_
  refine lv_iload_n hx hb dX1_setShare_61 rfl (lv_at hl 2 rfl) ?_
  refine nv_imul hx hb dX1_setShare_62 rfl ?_
  refine lv_iload_n hx hb dX1_setShare_63 rfl (lv_at hl 1 rfl) ?_
  refine nv_iadd hx hb dX1_setShare_64 rfl ?_
  refine nv_iald hx hb hK hP 3 0 (n := 32) (v := nI (ms_ v ((4 * c_) + s_))) rfl rfl (by omega) (by decide) rfl dX1_setShare_65 ?_
  refine nv_topi (congrArg nI (show (ms_ v ((4 * c_) + s_) : Nat) = vs_sh v s_ c_ from by exact ms_at hs hc (by omega))) ?_
  refine lv_istore (lv' := [(4, .int (nI (vs_sh v s_ c_))), (0, .ref (b 0)), (1, .int (nI (s_))), (2, .int (nI (c_))), (3, .int (nI (x_)))]) hx hb dX1_setShare_66 hl (by decide) rfl (fun ls hl => ?_)
  refine lv_aload_n hx hb dX1_setShare_68 rfl (lv_at hl 1 rfl) ?_
  refine va_get (D := D) (ci := 1) (v := .ref (b 3)) (C := RX1) (T := TX1) (N := 8) hx hb hts i_X1 hown hK hP 0 rfl rfl 7 (by decide) (hts _ q_f_X1_16) (fun _ h9 => h9) rfl dX1_setShare_69 ?_
  refine lv_iconst (v := nI (4)) hx hb dX1_setShare_72 (by decide) ?_
  refine lv_iload_n hx hb dX1_setShare_73 rfl (lv_at hl 3 rfl) ?_
  refine nv_imul hx hb dX1_setShare_74 rfl ?_
  refine lv_iload_n hx hb dX1_setShare_75 rfl (lv_at hl 2 rfl) ?_
  refine nv_iadd hx hb dX1_setShare_76 rfl ?_
  refine lv_iload_n hx hb dX1_setShare_77 rfl (lv_at hl 4 rfl) ?_
  refine nv_iast hx hb hK hP (mx_D hap κ _ _ _ _ _ _ _ _) hS 3 0 (n := 32) (j := (4 * c_) + s_) rfl rfl (by omega) (by decide) ms_ms dX1_setShare_78 (fun H locs hP hS => ?_)
  have hP : va_P D vwCl (mx_ κ b 0 (vs_c v) (vs_n v) (vs_t v) (rw_ v) (vs_ct v) (vs_so v) (upN (ms_ v) ((4 * c_) + s_) x_)) H := hP
  refine lv_iload hx hb dX1_setShare_79 (lv_at hl 0 rfl) ?_
  have hP : va_P D vwCl (mw κ b 0 (nx_setShare v s_ c_ x_)) H := by
    have e9 : mx_ κ b 0 (vs_c v) (vs_n v) (vs_t v) (rw_ v) (vs_ct v) (vs_so v) (upN (ms_ v) ((4 * c_) + s_) x_) = mw κ b 0 (nx_setShare v s_ c_ x_) := by rw [ms_setShare hs hc (by omega)]; rfl
    rw [← e9]
    exact hP
  exact hend _ _ _ _ dX1_setShare_81 hP hS
set_option maxHeartbeats 4000000 in
set_option maxRecDepth 100000 in
theorem c_X1_toss_x1 (l : Launch) (D : va_G) (κ : Nat → ClassId) (b : Nat → Nat) (u : Nat) (v : VS) (hv : ok_v v) (hap : ap_ b 4) (h_ : Bool) (hz : vs_t v = 12 ∨ ch_ v h_ (hh_ v) (tt_ v) = 0) : Wr l yX1_toss cX1_toss 3 (some .int) 6 146 (Pw D (kt_ κ) (mw κ b u v) [.ref (b 0), .int (bI (h_))]) D (mw κ b 1 v) (ma_ b) (some (.int (nI (0)))) := by
  refine wr_intro (own := RX1) (by decide +kernel) rfl (Nat.le_of_ble_eq_true rfl) (fun p e s m args below meth c pc ls H locs hx hb hr hlk d h1 h2 => rew_I hx hb hr hlk d h1 h2) ?_
  intro p e s m args below meth c ls Qq hx hb hml hown hts hK hP hS hend hl
  have hl : lv_has ls 3 [(0, .ref (b 0)), (1, .int (bI (h_)))] := hl
  obtain ⟨hv1, hv2, hv3, hv4, hv5, hv6⟩ := id hv
  have hP : va_P D vwCl (mw κ b u v) s.heap := hP
  refine lv_aload_n hx hb dX1_toss_0 rfl (lv_at hl 0 rfl) ?_
  refine lv_iconst (v := nI (0)) hx hb dX1_toss_1 (by decide) ?_
  refine va_put (D := D) (ci := 1) (v := .int (nI (0))) (ty := .int) (C := RX1) (T := TX1) (N := 8) hx hb hts i_X1 tyX1 tyX1_ok nmX1 hown hK hP (mx_D hap κ _ _ _ _ _ _ _ _) hS 0 rfl rfl 0 (by decide) (hts _ q_f_X1_19) (fun _ h9 => h9) rfl (by decide +kernel) rfl rfl (Nat.le_of_ble_eq_true rfl) dX1_toss_2 (fun H locs hP _ hS => ?_)
  have hP : va_P D vwCl (mw κ b 0 v) H := hP
  refine lv_aload_n hx hb dX1_toss_5 rfl (lv_at hl 0 rfl) ?_
  refine va_get (D := D) (ci := 1) (v := .int (nI (vs_t v))) (C := RX1) (T := TX1) (N := 8) hx hb hts i_X1 hown hK hP 0 rfl rfl 3 (by decide) (hts _ q_f_X1_33) (fun _ h9 => h9) rfl dX1_toss_6 ?_
  refine lv_bipush (v := nI (12)) hx hb dX1_toss_9 (by decide) ?_
  refine nv_icmp_eq (tgt := 22) hx hb dX1_toss_11 (by decide) (by omega) (by omega) (fun c_11 => ?_) (fun c_11 => ?_)
  · refine lv_aload_n hx hb dX1_toss_22 rfl (lv_at hl 0 rfl) ?_
    refine lv_iconst (v := nI (1)) hx hb dX1_toss_23 (by decide) ?_
    refine wr_V (rest := []) ⟨hx, hb, hml, hown, hts⟩ (c_X1_fail_ok l D κ b 0 v hv hap (1) (by omega)) g_X1_73 n_X1_fail ⟨Nat.le_of_ble_eq_true rfl, Nat.le_of_ble_eq_true rfl⟩ hK hP rfl rfl rfl hl.1 rfl (Nat.le_of_ble_eq_true rfl) dX1_toss_24 ⟨Nat.zero_le _, Nat.zero_le _⟩ hS (fun _ h => h) (fun H locs hP hS _ _ => ?_)
    have hP : va_P D vwCl (mw κ b 1 v) H := hP
    exact hend _ _ _ _ dX1_toss_27 hP hS
  · refine lv_aload_n hx hb dX1_toss_14 rfl (lv_at hl 0 rfl) ?_
    refine lv_iload_n hx hb dX1_toss_15 rfl (lv_at hl 1 rfl) ?_
    refine rd_V (rest := []) ⟨hx, hb, hml, hown, hts⟩ (c_X1_canBe l D κ b 0 v hv (h_)) g_X1_83 n_X1_canBe ⟨Nat.le_of_ble_eq_true rfl, Nat.le_of_ble_eq_true rfl⟩ hK hP rfl rfl rfl hl.1 rfl (Nat.le_of_ble_eq_true rfl) dX1_toss_16 ⟨Nat.zero_le _, Nat.zero_le _⟩ ?_
    refine bv_if_ne (tgt := 28) hx hb dX1_toss_19 (by decide) (fun z => absurd z (by rw [decide_eq_false (by omega)]; simp)) (fun c_19 => ?_)
    refine lv_aload_n hx hb dX1_toss_22 rfl (lv_at hl 0 rfl) ?_
    refine lv_iconst (v := nI (1)) hx hb dX1_toss_23 (by decide) ?_
    refine wr_V (rest := []) ⟨hx, hb, hml, hown, hts⟩ (c_X1_fail_ok l D κ b 0 v hv hap (1) (by omega)) g_X1_73 n_X1_fail ⟨Nat.le_of_ble_eq_true rfl, Nat.le_of_ble_eq_true rfl⟩ hK hP rfl rfl rfl hl.1 rfl (Nat.le_of_ble_eq_true rfl) dX1_toss_24 ⟨Nat.zero_le _, Nat.zero_le _⟩ hS (fun _ h => h) (fun H locs hP hS _ _ => ?_)
    have hP : va_P D vwCl (mw κ b 1 v) H := hP
    exact hend _ _ _ _ dX1_toss_27 hP hS
set_option maxHeartbeats 4000000 in
set_option maxRecDepth 100000 in
theorem c_X1_toss_ok (l : Launch) (D : va_G) (κ : Nat → ClassId) (b : Nat → Nat) (u : Nat) (v : VS) (hv : ok_v v) (hap : ap_ b 4) (h_ : Bool) (ht12 : vs_t v < 12) (hp : 0 < ch_ v h_ (hh_ v) (tt_ v)) : Wr l yX1_toss cX1_toss 3 (some .int) 6 146 (Pw D (kt_ κ) (mw κ b u v) [.ref (b 0), .int (bI (h_))]) D (mw κ b 0 (nx_toss v h_)) (ma_ b) (some (.int (nI (su_ v h_ (hh_ v) (tt_ v))))) := by
  refine wr_intro (own := RX1) (by decide +kernel) rfl (Nat.le_of_ble_eq_true rfl) (fun p e s m args below meth c pc ls H locs hx hb hr hlk d h1 h2 => rew_I hx hb hr hlk d h1 h2) ?_
  intro p e s m args below meth c ls Qq hx hb hml hown hts hK hP hS hend hl
  have hl : lv_has ls 3 [(0, .ref (b 0)), (1, .int (bI (h_)))] := hl
  obtain ⟨hv1, hv2, hv3, hv4, hv5, hv6⟩ := id hv
  have hP : va_P D vwCl (mw κ b u v) s.heap := hP
  have hq1 := hh_le v
  have hq2 := hh_tt v
  refine lv_aload_n hx hb dX1_toss_0 rfl (lv_at hl 0 rfl) ?_
  refine lv_iconst (v := nI (0)) hx hb dX1_toss_1 (by decide) ?_
  refine va_put (D := D) (ci := 1) (v := .int (nI (0))) (ty := .int) (C := RX1) (T := TX1) (N := 8) hx hb hts i_X1 tyX1 tyX1_ok nmX1 hown hK hP (mx_D hap κ _ _ _ _ _ _ _ _) hS 0 rfl rfl 0 (by decide) (hts _ q_f_X1_19) (fun _ h9 => h9) rfl (by decide +kernel) rfl rfl (Nat.le_of_ble_eq_true rfl) dX1_toss_2 (fun H locs hP _ hS => ?_)
  have hP : va_P D vwCl (mw κ b 0 v) H := hP
  refine lv_aload_n hx hb dX1_toss_5 rfl (lv_at hl 0 rfl) ?_
  refine va_get (D := D) (ci := 1) (v := .int (nI (vs_t v))) (C := RX1) (T := TX1) (N := 8) hx hb hts i_X1 hown hK hP 0 rfl rfl 3 (by decide) (hts _ q_f_X1_33) (fun _ h9 => h9) rfl dX1_toss_6 ?_
  refine lv_bipush (v := nI (12)) hx hb dX1_toss_9 (by decide) ?_
  refine nv_icmp_eq (tgt := 22) hx hb dX1_toss_11 (by decide) (by omega) (by omega) (fun z => absurd z (by omega)) (fun c_11 => ?_)
  refine lv_aload_n hx hb dX1_toss_14 rfl (lv_at hl 0 rfl) ?_
  refine lv_iload_n hx hb dX1_toss_15 rfl (lv_at hl 1 rfl) ?_
  refine rd_V (rest := []) ⟨hx, hb, hml, hown, hts⟩ (c_X1_canBe l D κ b 0 v hv (h_)) g_X1_83 n_X1_canBe ⟨Nat.le_of_ble_eq_true rfl, Nat.le_of_ble_eq_true rfl⟩ hK hP rfl rfl rfl hl.1 rfl (Nat.le_of_ble_eq_true rfl) dX1_toss_16 ⟨Nat.zero_le _, Nat.zero_le _⟩ ?_
  refine bv_if_ne (tgt := 28) hx hb dX1_toss_19 (by decide) (fun c_19 => ?_) (fun z => absurd z (by rw [decide_eq_true hp]; simp))
  refine lv_aload_n hx hb dX1_toss_28 rfl (lv_at hl 0 rfl) ?_
  refine lv_iload_n hx hb dX1_toss_29 rfl (lv_at hl 1 rfl) ?_
  refine lv_aload_n hx hb dX1_toss_30 rfl (lv_at hl 0 rfl) ?_
  refine rd_V (rest := [.int (bI (h_)), .ref (b 0)]) ⟨hx, hb, hml, hown, hts⟩ (c_X1_headsNow l D κ b 0 v hv) g_X1_69 n_X1_headsNow ⟨Nat.le_of_ble_eq_true rfl, Nat.le_of_ble_eq_true rfl⟩ hK hP rfl rfl rfl hl.1 rfl (Nat.le_of_ble_eq_true rfl) dX1_toss_31 ⟨Nat.zero_le _, Nat.zero_le _⟩ ?_
  refine lv_aload_n hx hb dX1_toss_34 rfl (lv_at hl 0 rfl) ?_
  refine va_get (D := D) (ci := 1) (v := .int (nI (vs_t v))) (C := RX1) (T := TX1) (N := 8) hx hb hts i_X1 hown hK hP 0 rfl rfl 3 (by decide) (hts _ q_f_X1_33) (fun _ h9 => h9) rfl dX1_toss_35 ?_
  refine lv_aload_n hx hb dX1_toss_38 rfl (lv_at hl 0 rfl) ?_
  refine rd_V (rest := [.int (nI (vs_t v)), .int (nI (hh_ v)), .int (bI (h_)), .ref (b 0)]) ⟨hx, hb, hml, hown, hts⟩ (c_X1_headsNow l D κ b 0 v hv) g_X1_69 n_X1_headsNow ⟨Nat.le_of_ble_eq_true rfl, Nat.le_of_ble_eq_true rfl⟩ hK hP rfl rfl rfl hl.1 rfl (Nat.le_of_ble_eq_true rfl) dX1_toss_39 ⟨Nat.zero_le _, Nat.zero_le _⟩ ?_
  refine nv_isub (r := (vs_t v) - (hh_ v)) hx hb dX1_toss_42 (by omega) ?_
  refine nv_topi (congrArg nI (show ((vs_t v) - (hh_ v) : Nat) = tt_ v from by rfl)) ?_
  refine rd_V (rest := []) ⟨hx, hb, hml, hown, hts⟩ (c_X1_surprise l D κ b 0 v hv (h_) (hh_ v) (tt_ v) (by omega) (hp)) g_X1_87 n_X1_surprise ⟨Nat.le_of_ble_eq_true rfl, Nat.le_of_ble_eq_true rfl⟩ hK hP rfl rfl rfl hl.1 rfl (Nat.le_of_ble_eq_true rfl) dX1_toss_43 ⟨Nat.zero_le _, Nat.zero_le _⟩ ?_
  refine lv_istore_n (lv' := [(2, .int (nI (su_ v h_ (hh_ v) (tt_ v)))), (0, .ref (b 0)), (1, .int (bI (h_)))]) hx hb dX1_toss_46 rfl hl (by decide) rfl (fun ls hl => ?_)
  refine lv_aload_n hx hb dX1_toss_47 rfl (lv_at hl 1 rfl) ?_
  refine lv_dup hx hb dX1_toss_48 rfl ?_
  refine va_get (D := D) (ci := 1) (v := .int (nI (rw_ v))) (C := RX1) (T := TX1) (N := 8) hx hb hts i_X1 hown hK hP 0 rfl rfl 4 (by decide) (hts _ q_f_X1_36) (fun _ h9 => h9) rfl dX1_toss_49 ?_
  refine lv_iload_n hx hb dX1_toss_52 rfl (lv_at hl 2 rfl) ?_
  refine bv_if_eq (tgt := 60) hx hb dX1_toss_53 (by decide) (fun c_53 => ?_) (fun c_53 => ?_)
  · refine lv_iconst (v := nI (0)) hx hb dX1_toss_60 (by decide) ?_
    refine lv_aload_n hx hb dX1_toss_61 rfl (lv_at hl 1 rfl) ?_
    refine va_get (D := D) (ci := 1) (v := .int (nI (vs_t v))) (C := RX1) (T := TX1) (N := 8) hx hb hts i_X1 hown hK hP 0 rfl rfl 3 (by decide) (hts _ q_f_X1_33) (fun _ h9 => h9) rfl dX1_toss_62 ?_
    refine lv_ishl hx hb dX1_toss_65 ?_
    refine lv_ior hx hb dX1_toss_66 ?_
    refine nv_topi (show ((nI (rw_ v)) ||| ((nI (0)) <<< ((nI (vs_t v)) &&& 31)) : Int32) = nI (rn_ (upB (vs_th v) (vs_t v) h_) (vs_t v + 1)) from by first | exact row_t c_53 (by omega) | exact row_f c_53 (by omega)) ?_
    refine va_put (D := D) (ci := 1) (v := .int (nI (rn_ (upB (vs_th v) (vs_t v) h_) (vs_t v + 1)))) (ty := .int) (C := RX1) (T := TX1) (N := 8) hx hb hts i_X1 tyX1 tyX1_ok nmX1 hown hK hP (mx_D hap κ _ _ _ _ _ _ _ _) hS 0 rfl rfl 4 (by decide) (hts _ q_f_X1_36) (fun _ h9 => h9) rfl (by decide +kernel) rfl rfl (Nat.le_of_ble_eq_true rfl) dX1_toss_67 (fun H locs hP _ hS => ?_)
    have hP : va_P D vwCl (mx_ κ b 0 (vs_c v) (vs_n v) (vs_t v) (rn_ (upB (vs_th v) (vs_t v) h_) (vs_t v + 1)) (vs_ct v) (vs_so v) (ms_ v)) H := hP
    refine lv_aload_n hx hb dX1_toss_70 rfl (lv_at hl 1 rfl) ?_
    refine lv_dup hx hb dX1_toss_71 rfl ?_
    refine va_get (D := D) (ci := 1) (v := .int (nI (vs_t v))) (C := RX1) (T := TX1) (N := 8) hx hb hts i_X1 hown hK hP 0 rfl rfl 3 (by decide) (hts _ q_f_X1_33) (fun _ h9 => h9) rfl dX1_toss_72 ?_
    refine lv_iconst (v := nI (1)) hx hb dX1_toss_75 (by decide) ?_
    refine nv_iadd hx hb dX1_toss_76 rfl ?_
    refine va_put (D := D) (ci := 1) (v := .int (nI ((vs_t v) + 1))) (ty := .int) (C := RX1) (T := TX1) (N := 8) hx hb hts i_X1 tyX1 tyX1_ok nmX1 hown hK hP (mx_D hap κ _ _ _ _ _ _ _ _) hS 0 rfl rfl 3 (by decide) (hts _ q_f_X1_33) (fun _ h9 => h9) rfl (by decide +kernel) rfl rfl (Nat.le_of_ble_eq_true rfl) dX1_toss_77 (fun H locs hP _ hS => ?_)
    have hP : va_P D vwCl (mx_ κ b 0 (vs_c v) (vs_n v) ((vs_t v) + 1) (rn_ (upB (vs_th v) (vs_t v) h_) (vs_t v + 1)) (vs_ct v) (vs_so v) (ms_ v)) H := hP
    refine lv_iload_n hx hb dX1_toss_80 rfl (lv_at hl 0 rfl) ?_
    have hP : va_P D vwCl (mw κ b 0 (nx_toss v h_)) H := by
      have e9 : mx_ κ b 0 (vs_c v) (vs_n v) ((vs_t v) + 1) (rn_ (upB (vs_th v) (vs_t v) h_) (vs_t v + 1)) (vs_ct v) (vs_so v) (ms_ v) = mw κ b 0 (nx_toss v h_) := by rfl
      rw [← e9]
      exact hP
    exact hend _ _ _ _ dX1_toss_81 hP hS
  · refine lv_iconst (v := nI (1)) hx hb dX1_toss_56 (by decide) ?_
    refine lv_goto (tgt := 61) hx hb dX1_toss_57 (by decide) ?_
    refine lv_aload_n hx hb dX1_toss_61 rfl (lv_at hl 1 rfl) ?_
    refine va_get (D := D) (ci := 1) (v := .int (nI (vs_t v))) (C := RX1) (T := TX1) (N := 8) hx hb hts i_X1 hown hK hP 0 rfl rfl 3 (by decide) (hts _ q_f_X1_33) (fun _ h9 => h9) rfl dX1_toss_62 ?_
    refine lv_ishl hx hb dX1_toss_65 ?_
    refine lv_ior hx hb dX1_toss_66 ?_
    refine nv_topi (show ((nI (rw_ v)) ||| ((nI (1)) <<< ((nI (vs_t v)) &&& 31)) : Int32) = nI (rn_ (upB (vs_th v) (vs_t v) h_) (vs_t v + 1)) from by first | exact row_t c_53 (by omega) | exact row_f c_53 (by omega)) ?_
    refine va_put (D := D) (ci := 1) (v := .int (nI (rn_ (upB (vs_th v) (vs_t v) h_) (vs_t v + 1)))) (ty := .int) (C := RX1) (T := TX1) (N := 8) hx hb hts i_X1 tyX1 tyX1_ok nmX1 hown hK hP (mx_D hap κ _ _ _ _ _ _ _ _) hS 0 rfl rfl 4 (by decide) (hts _ q_f_X1_36) (fun _ h9 => h9) rfl (by decide +kernel) rfl rfl (Nat.le_of_ble_eq_true rfl) dX1_toss_67 (fun H locs hP _ hS => ?_)
    have hP : va_P D vwCl (mx_ κ b 0 (vs_c v) (vs_n v) (vs_t v) (rn_ (upB (vs_th v) (vs_t v) h_) (vs_t v + 1)) (vs_ct v) (vs_so v) (ms_ v)) H := hP
    refine lv_aload_n hx hb dX1_toss_70 rfl (lv_at hl 1 rfl) ?_
    refine lv_dup hx hb dX1_toss_71 rfl ?_
    refine va_get (D := D) (ci := 1) (v := .int (nI (vs_t v))) (C := RX1) (T := TX1) (N := 8) hx hb hts i_X1 hown hK hP 0 rfl rfl 3 (by decide) (hts _ q_f_X1_33) (fun _ h9 => h9) rfl dX1_toss_72 ?_
    refine lv_iconst (v := nI (1)) hx hb dX1_toss_75 (by decide) ?_
    refine nv_iadd hx hb dX1_toss_76 rfl ?_
    refine va_put (D := D) (ci := 1) (v := .int (nI ((vs_t v) + 1))) (ty := .int) (C := RX1) (T := TX1) (N := 8) hx hb hts i_X1 tyX1 tyX1_ok nmX1 hown hK hP (mx_D hap κ _ _ _ _ _ _ _ _) hS 0 rfl rfl 3 (by decide) (hts _ q_f_X1_33) (fun _ h9 => h9) rfl (by decide +kernel) rfl rfl (Nat.le_of_ble_eq_true rfl) dX1_toss_77 (fun H locs hP _ hS => ?_)
    have hP : va_P D vwCl (mx_ κ b 0 (vs_c v) (vs_n v) ((vs_t v) + 1) (rn_ (upB (vs_th v) (vs_t v) h_) (vs_t v + 1)) (vs_ct v) (vs_so v) (ms_ v)) H := hP
    refine lv_iload_n hx hb dX1_toss_80 rfl (lv_at hl 0 rfl) ?_
    have hP : va_P D vwCl (mw κ b 0 (nx_toss v h_)) H := by
      have e9 : mx_ κ b 0 (vs_c v) (vs_n v) ((vs_t v) + 1) (rn_ (upB (vs_th v) (vs_t v) h_) (vs_t v + 1)) (vs_ct v) (vs_so v) (ms_ v) = mw κ b 0 (nx_toss v h_) := by rfl
      rw [← e9]
      exact hP
    exact hend _ _ _ _ dX1_toss_81 hP hS
set_option maxHeartbeats 4000000 in
set_option maxRecDepth 100000 in
theorem c_X1_undo_x1 (l : Launch) (D : va_G) (κ : Nat → ClassId) (b : Nat → Nat) (u : Nat) (v : VS) (hv : ok_v v) (hap : ap_ b 4) (hz : vs_t v = 0) : Wr l yX1_undo cX1_undo 2 (some .boolean) 1 21 (Pw D (kt_ κ) (mw κ b u v) [.ref (b 0)]) D (mw κ b 1 v) (ma_ b) (some (.int (bI (false)))) := by
  refine wr_intro (own := RX1) (by decide +kernel) rfl (Nat.le_of_ble_eq_true rfl) (fun p e s m args below meth c pc ls H locs hx hb hr hlk d h1 h2 => rew_Z hx hb hr hlk d h1 h2) ?_
  intro p e s m args below meth c ls Qq hx hb hml hown hts hK hP hS hend hl
  have hl : lv_has ls 2 [(0, .ref (b 0))] := hl
  obtain ⟨hv1, hv2, hv3, hv4, hv5, hv6⟩ := id hv
  have hP : va_P D vwCl (mw κ b u v) s.heap := hP
  refine lv_aload_n hx hb dX1_undo_0 rfl (lv_at hl 0 rfl) ?_
  refine lv_aload_n hx hb dX1_undo_1 rfl (lv_at hl 0 rfl) ?_
  refine va_get (D := D) (ci := 1) (v := .int (nI (vs_t v))) (C := RX1) (T := TX1) (N := 8) hx hb hts i_X1 hown hK hP 0 rfl rfl 3 (by decide) (hts _ q_f_X1_33) (fun _ h9 => h9) rfl dX1_undo_2 ?_
  refine nv_if_ne (tgt := 12) hx hb dX1_undo_5 (by decide) (by omega) (fun z => absurd z (by omega)) (fun c_5 => ?_)
  refine lv_iconst (v := nI (1)) hx hb dX1_undo_8 (by decide) ?_
  refine lv_goto (tgt := 13) hx hb dX1_undo_9 (by decide) ?_
  refine va_put (D := D) (ci := 1) (v := .int (nI (1))) (ty := .int) (C := RX1) (T := TX1) (N := 8) hx hb hts i_X1 tyX1 tyX1_ok nmX1 hown hK hP (mx_D hap κ _ _ _ _ _ _ _ _) hS 0 rfl rfl 0 (by decide) (hts _ q_f_X1_19) (fun _ h9 => h9) rfl (by decide +kernel) rfl rfl (Nat.le_of_ble_eq_true rfl) dX1_undo_13 (fun H locs hP _ hS => ?_)
  have hP : va_P D vwCl (mw κ b 1 v) H := hP
  refine lv_aload_n hx hb dX1_undo_16 rfl (lv_at hl 0 rfl) ?_
  refine va_get (D := D) (ci := 1) (v := .int (nI (1))) (C := RX1) (T := TX1) (N := 8) hx hb hts i_X1 hown hK hP 0 rfl rfl 0 (by decide) (hts _ q_f_X1_19) (fun _ h9 => h9) rfl dX1_undo_17 ?_
  refine nv_if_le (tgt := 25) hx hb dX1_undo_20 (by decide) (by omega) (fun z => absurd z (by omega)) (fun c_20 => ?_)
  refine lv_iconst (v := nI (0)) hx hb dX1_undo_23 (by decide) ?_
  refine nv_topi (show (nI (0) : Int32) = bI (false) from by rfl) ?_
  exact hend _ _ _ _ dX1_undo_24 hP hS
set_option maxHeartbeats 4000000 in
set_option maxRecDepth 100000 in
theorem c_X1_undo_ok (l : Launch) (D : va_G) (κ : Nat → ClassId) (b : Nat → Nat) (u : Nat) (v : VS) (hv : ok_v v) (hap : ap_ b 4) (h0 : 0 < vs_t v) : Wr l yX1_undo cX1_undo 2 (some .boolean) 1 21 (Pw D (kt_ κ) (mw κ b u v) [.ref (b 0)]) D (mw κ b 0 (nx_undo v)) (ma_ b) (some (.int (bI (vs_th v (vs_t v - 1))))) := by
  refine wr_intro (own := RX1) (by decide +kernel) rfl (Nat.le_of_ble_eq_true rfl) (fun p e s m args below meth c pc ls H locs hx hb hr hlk d h1 h2 => rew_Z hx hb hr hlk d h1 h2) ?_
  intro p e s m args below meth c ls Qq hx hb hml hown hts hK hP hS hend hl
  have hl : lv_has ls 2 [(0, .ref (b 0))] := hl
  obtain ⟨hv1, hv2, hv3, hv4, hv5, hv6⟩ := id hv
  have hP : va_P D vwCl (mw κ b u v) s.heap := hP
  refine lv_aload_n hx hb dX1_undo_0 rfl (lv_at hl 0 rfl) ?_
  refine lv_aload_n hx hb dX1_undo_1 rfl (lv_at hl 0 rfl) ?_
  refine va_get (D := D) (ci := 1) (v := .int (nI (vs_t v))) (C := RX1) (T := TX1) (N := 8) hx hb hts i_X1 hown hK hP 0 rfl rfl 3 (by decide) (hts _ q_f_X1_33) (fun _ h9 => h9) rfl dX1_undo_2 ?_
  refine nv_if_ne (tgt := 12) hx hb dX1_undo_5 (by decide) (by omega) (fun c_5 => ?_) (fun z => absurd z (by omega))
  refine lv_iconst (v := nI (0)) hx hb dX1_undo_12 (by decide) ?_
  refine va_put (D := D) (ci := 1) (v := .int (nI (0))) (ty := .int) (C := RX1) (T := TX1) (N := 8) hx hb hts i_X1 tyX1 tyX1_ok nmX1 hown hK hP (mx_D hap κ _ _ _ _ _ _ _ _) hS 0 rfl rfl 0 (by decide) (hts _ q_f_X1_19) (fun _ h9 => h9) rfl (by decide +kernel) rfl rfl (Nat.le_of_ble_eq_true rfl) dX1_undo_13 (fun H locs hP _ hS => ?_)
  have hP : va_P D vwCl (mw κ b 0 v) H := hP
  refine lv_aload_n hx hb dX1_undo_16 rfl (lv_at hl 0 rfl) ?_
  refine va_get (D := D) (ci := 1) (v := .int (nI (0))) (C := RX1) (T := TX1) (N := 8) hx hb hts i_X1 hown hK hP 0 rfl rfl 0 (by decide) (hts _ q_f_X1_19) (fun _ h9 => h9) rfl dX1_undo_17 ?_
  refine nv_if_le (tgt := 25) hx hb dX1_undo_20 (by decide) (by omega) (fun c_20 => ?_) (fun z => absurd z (by omega))
  refine lv_aload_n hx hb dX1_undo_25 rfl (lv_at hl 0 rfl) ?_
  refine lv_dup hx hb dX1_undo_26 rfl ?_
  refine va_get (D := D) (ci := 1) (v := .int (nI (vs_t v))) (C := RX1) (T := TX1) (N := 8) hx hb hts i_X1 hown hK hP 0 rfl rfl 3 (by decide) (hts _ q_f_X1_33) (fun _ h9 => h9) rfl dX1_undo_27 ?_
  refine lv_iconst (v := nI (1)) hx hb dX1_undo_30 (by decide) ?_
  refine nv_isub (r := (vs_t v) - 1) hx hb dX1_undo_31 (by omega) ?_
  refine va_put (D := D) (ci := 1) (v := .int (nI ((vs_t v) - 1))) (ty := .int) (C := RX1) (T := TX1) (N := 8) hx hb hts i_X1 tyX1 tyX1_ok nmX1 hown hK hP (mx_D hap κ _ _ _ _ _ _ _ _) hS 0 rfl rfl 3 (by decide) (hts _ q_f_X1_33) (fun _ h9 => h9) rfl (by decide +kernel) rfl rfl (Nat.le_of_ble_eq_true rfl) dX1_undo_32 (fun H locs hP _ hS => ?_)
  have hP : va_P D vwCl (mx_ κ b 0 (vs_c v) (vs_n v) ((vs_t v) - 1) (rw_ v) (vs_ct v) (vs_so v) (ms_ v)) H := hP
  refine lv_aload_n hx hb dX1_undo_35 rfl (lv_at hl 0 rfl) ?_
  refine va_get (D := D) (ci := 1) (v := .int (nI (rw_ v))) (C := RX1) (T := TX1) (N := 8) hx hb hts i_X1 hown hK hP 0 rfl rfl 4 (by decide) (hts _ q_f_X1_36) (fun _ h9 => h9) rfl dX1_undo_36 ?_
  refine lv_aload_n hx hb dX1_undo_39 rfl (lv_at hl 0 rfl) ?_
  refine va_get (D := D) (ci := 1) (v := .int (nI ((vs_t v) - 1))) (C := RX1) (T := TX1) (N := 8) hx hb hts i_X1 hown hK hP 0 rfl rfl 3 (by decide) (hts _ q_f_X1_33) (fun _ h9 => h9) rfl dX1_undo_40 ?_
  refine lv_ishr hx hb dX1_undo_43 ?_
  refine lv_iconst (v := nI (1)) hx hb dX1_undo_44 (by decide) ?_
  refine lv_iand hx hb dX1_undo_45 ?_
  refine nv_topi (show (((nI (rw_ v)) >>> ((nI ((vs_t v) - 1)) &&& 31)) &&& (nI (1)) : Int32) = nI (if vs_th v (vs_t v - 1) then 1 else 0) from by exact bit_at (by omega) (by omega)) ?_
  refine lv_iconst (v := nI (1)) hx hb dX1_undo_46 (by decide) ?_
  refine nv_icmp_ne (tgt := 54) hx hb dX1_undo_47 (by decide) (by split <;> omega) (by omega) (fun c_47 => ?_) (fun c_47 => ?_)
  · refine lv_iconst (v := nI (0)) hx hb dX1_undo_54 (by decide) ?_
    refine nv_topi (show (nI (0) : Int32) = bI (vs_th v (vs_t v - 1)) from by first | exact up_t c_47 | exact up_f c_47) ?_
    refine lv_istore_n (lv' := [(1, .int (bI (vs_th v (vs_t v - 1)))), (0, .ref (b 0))]) hx hb dX1_undo_55 rfl hl (by decide) rfl (fun ls hl => ?_)
    refine lv_aload_n hx hb dX1_undo_56 rfl (lv_at hl 1 rfl) ?_
    refine lv_aload_n hx hb dX1_undo_57 rfl (lv_at hl 1 rfl) ?_
    refine va_get (D := D) (ci := 1) (v := .int (nI (rw_ v))) (C := RX1) (T := TX1) (N := 8) hx hb hts i_X1 hown hK hP 0 rfl rfl 4 (by decide) (hts _ q_f_X1_36) (fun _ h9 => h9) rfl dX1_undo_58 ?_
    refine lv_aload_n hx hb dX1_undo_61 rfl (lv_at hl 1 rfl) ?_
    refine va_get (D := D) (ci := 1) (v := .int (nI ((vs_t v) - 1))) (C := RX1) (T := TX1) (N := 8) hx hb hts i_X1 hown hK hP 0 rfl rfl 3 (by decide) (hts _ q_f_X1_33) (fun _ h9 => h9) rfl dX1_undo_62 ?_
    refine rd_S (rest := [.ref (b 0)]) ⟨hx, hb, hml, hown, hts⟩ (c_X1_without l (vs_th v) (vs_t v) ((vs_t v) - 1) (by omega) (by omega)) g_X1_91 n_X1_without ⟨Nat.le_of_ble_eq_true rfl, Nat.le_of_ble_eq_true rfl⟩ rfl hl.1 rfl (Nat.le_of_ble_eq_true rfl) dX1_undo_65 ⟨Nat.zero_le _, Nat.zero_le _⟩ ?_
    refine va_put (D := D) (ci := 1) (v := .int (nI (rn_ (sh_ (vs_th v) ((vs_t v) - 1) ((vs_t v) - 1)) ((vs_t v) - 1)))) (ty := .int) (C := RX1) (T := TX1) (N := 8) hx hb hts i_X1 tyX1 tyX1_ok nmX1 hown hK hP (mx_D hap κ _ _ _ _ _ _ _ _) hS 0 rfl rfl 4 (by decide) (hts _ q_f_X1_36) (fun _ h9 => h9) rfl (by decide +kernel) rfl rfl (Nat.le_of_ble_eq_true rfl) dX1_undo_68 (fun H locs hP _ hS => ?_)
    have hP : va_P D vwCl (mx_ κ b 0 (vs_c v) (vs_n v) ((vs_t v) - 1) (rn_ (sh_ (vs_th v) ((vs_t v) - 1) ((vs_t v) - 1)) ((vs_t v) - 1)) (vs_ct v) (vs_so v) (ms_ v)) H := hP
    refine lv_iload_n hx hb dX1_undo_71 rfl (lv_at hl 0 rfl) ?_
    have hP : va_P D vwCl (mw κ b 0 (nx_undo v)) H := by
      have e9 : mx_ κ b 0 (vs_c v) (vs_n v) ((vs_t v) - 1) (rn_ (sh_ (vs_th v) ((vs_t v) - 1) ((vs_t v) - 1)) ((vs_t v) - 1)) (vs_ct v) (vs_so v) (ms_ v) = mw κ b 0 (nx_undo v) := by rw [sh_0]; rfl
      rw [← e9]
      exact hP
    exact hend _ _ _ _ dX1_undo_72 hP hS
  · refine lv_iconst (v := nI (1)) hx hb dX1_undo_50 (by decide) ?_
    refine lv_goto (tgt := 55) hx hb dX1_undo_51 (by decide) ?_
    refine nv_topi (show (nI (1) : Int32) = bI (vs_th v (vs_t v - 1)) from by first | exact up_t c_47 | exact up_f c_47) ?_
    refine lv_istore_n (lv' := [(1, .int (bI (vs_th v (vs_t v - 1)))), (0, .ref (b 0))]) hx hb dX1_undo_55 rfl hl (by decide) rfl (fun ls hl => ?_)
    refine lv_aload_n hx hb dX1_undo_56 rfl (lv_at hl 1 rfl) ?_
    refine lv_aload_n hx hb dX1_undo_57 rfl (lv_at hl 1 rfl) ?_
    refine va_get (D := D) (ci := 1) (v := .int (nI (rw_ v))) (C := RX1) (T := TX1) (N := 8) hx hb hts i_X1 hown hK hP 0 rfl rfl 4 (by decide) (hts _ q_f_X1_36) (fun _ h9 => h9) rfl dX1_undo_58 ?_
    refine lv_aload_n hx hb dX1_undo_61 rfl (lv_at hl 1 rfl) ?_
    refine va_get (D := D) (ci := 1) (v := .int (nI ((vs_t v) - 1))) (C := RX1) (T := TX1) (N := 8) hx hb hts i_X1 hown hK hP 0 rfl rfl 3 (by decide) (hts _ q_f_X1_33) (fun _ h9 => h9) rfl dX1_undo_62 ?_
    refine rd_S (rest := [.ref (b 0)]) ⟨hx, hb, hml, hown, hts⟩ (c_X1_without l (vs_th v) (vs_t v) ((vs_t v) - 1) (by omega) (by omega)) g_X1_91 n_X1_without ⟨Nat.le_of_ble_eq_true rfl, Nat.le_of_ble_eq_true rfl⟩ rfl hl.1 rfl (Nat.le_of_ble_eq_true rfl) dX1_undo_65 ⟨Nat.zero_le _, Nat.zero_le _⟩ ?_
    refine va_put (D := D) (ci := 1) (v := .int (nI (rn_ (sh_ (vs_th v) ((vs_t v) - 1) ((vs_t v) - 1)) ((vs_t v) - 1)))) (ty := .int) (C := RX1) (T := TX1) (N := 8) hx hb hts i_X1 tyX1 tyX1_ok nmX1 hown hK hP (mx_D hap κ _ _ _ _ _ _ _ _) hS 0 rfl rfl 4 (by decide) (hts _ q_f_X1_36) (fun _ h9 => h9) rfl (by decide +kernel) rfl rfl (Nat.le_of_ble_eq_true rfl) dX1_undo_68 (fun H locs hP _ hS => ?_)
    have hP : va_P D vwCl (mx_ κ b 0 (vs_c v) (vs_n v) ((vs_t v) - 1) (rn_ (sh_ (vs_th v) ((vs_t v) - 1) ((vs_t v) - 1)) ((vs_t v) - 1)) (vs_ct v) (vs_so v) (ms_ v)) H := hP
    refine lv_iload_n hx hb dX1_undo_71 rfl (lv_at hl 0 rfl) ?_
    have hP : va_P D vwCl (mw κ b 0 (nx_undo v)) H := by
      have e9 : mx_ κ b 0 (vs_c v) (vs_n v) ((vs_t v) - 1) (rn_ (sh_ (vs_th v) ((vs_t v) - 1) ((vs_t v) - 1)) ((vs_t v) - 1)) (vs_ct v) (vs_so v) (ms_ v) = mw κ b 0 (nx_undo v) := by rw [sh_0]; rfl
      rw [← e9]
      exact hP
    exact hend _ _ _ _ dX1_undo_72 hP hS
set_option maxHeartbeats 4000000 in
set_option maxRecDepth 100000 in
theorem c_X1_strike_x1 (l : Launch) (D : va_G) (κ : Nat → ClassId) (b : Nat → Nat) (u : Nat) (v : VS) (hv : ok_v v) (hap : ap_ b 4) (x : Int32) (hx0 : ix_ x (vs_t v) = false) : Wr l yX1_strike cX1_strike 2 (some .int) 2 43 (Pw D (kt_ κ) (mw κ b u v) [.ref (b 0), .int (x)]) D (mw κ b 1 v) (ma_ b) (some (.int (nI (0)))) := by
  refine wr_intro (own := RX1) (by decide +kernel) rfl (Nat.le_of_ble_eq_true rfl) (fun p e s m args below meth c pc ls H locs hx hb hr hlk d h1 h2 => rew_I hx hb hr hlk d h1 h2) ?_
  intro p e s m args below meth c ls Qq hx hb hml hown hts hK hP hS hend hl
  have hl : lv_has ls 2 [(0, .ref (b 0)), (1, .int (x))] := hl
  obtain ⟨hv1, hv2, hv3, hv4, hv5, hv6⟩ := id hv
  have hP : va_P D vwCl (mw κ b u v) s.heap := hP
  refine lv_aload_n hx hb dX1_strike_0 rfl (lv_at hl 0 rfl) ?_
  refine lv_iconst (v := nI (0)) hx hb dX1_strike_1 (by decide) ?_
  refine va_put (D := D) (ci := 1) (v := .int (nI (0))) (ty := .int) (C := RX1) (T := TX1) (N := 8) hx hb hts i_X1 tyX1 tyX1_ok nmX1 hown hK hP (mx_D hap κ _ _ _ _ _ _ _ _) hS 0 rfl rfl 0 (by decide) (hts _ q_f_X1_19) (fun _ h9 => h9) rfl (by decide +kernel) rfl rfl (Nat.le_of_ble_eq_true rfl) dX1_strike_2 (fun H locs hP _ hS => ?_)
  have hP : va_P D vwCl (mw κ b 0 v) H := hP
  refine lv_aload_n hx hb dX1_strike_5 rfl (lv_at hl 0 rfl) ?_
  refine lv_iload_n hx hb dX1_strike_6 rfl (lv_at hl 1 rfl) ?_
  refine rd_V (rest := []) ⟨hx, hb, hml, hown, hts⟩ (c_X1_isToss l D κ b 0 v hv (x)) g_X1_94 n_X1_isToss ⟨Nat.le_of_ble_eq_true rfl, Nat.le_of_ble_eq_true rfl⟩ hK hP rfl rfl rfl hl.1 rfl (Nat.le_of_ble_eq_true rfl) dX1_strike_7 ⟨Nat.zero_le _, Nat.zero_le _⟩ ?_
  refine bv_if_ne (tgt := 19) hx hb dX1_strike_10 (by decide) (fun z => absurd z (by simp [hx0])) (fun c_10 => ?_)
  refine lv_aload_n hx hb dX1_strike_13 rfl (lv_at hl 0 rfl) ?_
  refine lv_iconst (v := nI (1)) hx hb dX1_strike_14 (by decide) ?_
  refine wr_V (rest := []) ⟨hx, hb, hml, hown, hts⟩ (c_X1_fail_ok l D κ b 0 v hv hap (1) (by omega)) g_X1_73 n_X1_fail ⟨Nat.le_of_ble_eq_true rfl, Nat.le_of_ble_eq_true rfl⟩ hK hP rfl rfl rfl hl.1 rfl (Nat.le_of_ble_eq_true rfl) dX1_strike_15 ⟨Nat.zero_le _, Nat.zero_le _⟩ hS (fun _ h => h) (fun H locs hP hS _ _ => ?_)
  have hP : va_P D vwCl (mw κ b 1 v) H := hP
  exact hend _ _ _ _ dX1_strike_18 hP hS
set_option maxHeartbeats 4000000 in
set_option maxRecDepth 100000 in
theorem c_X1_strike_ok (l : Launch) (D : va_G) (κ : Nat → ClassId) (b : Nat → Nat) (u : Nat) (v : VS) (hv : ok_v v) (hap : ap_ b 4) (k_ : Nat) (hk : k_ < vs_t v) : Wr l yX1_strike cX1_strike 2 (some .int) 2 43 (Pw D (kt_ κ) (mw κ b u v) [.ref (b 0), .int (nI (k_))]) D (mw κ b 0 (nx_strike v k_)) (ma_ b) (some (.int (nI (vs_t v - 1)))) := by
  refine wr_intro (own := RX1) (by decide +kernel) rfl (Nat.le_of_ble_eq_true rfl) (fun p e s m args below meth c pc ls H locs hx hb hr hlk d h1 h2 => rew_I hx hb hr hlk d h1 h2) ?_
  intro p e s m args below meth c ls Qq hx hb hml hown hts hK hP hS hend hl
  have hl : lv_has ls 2 [(0, .ref (b 0)), (1, .int (nI (k_)))] := hl
  obtain ⟨hv1, hv2, hv3, hv4, hv5, hv6⟩ := id hv
  have hP : va_P D vwCl (mw κ b u v) s.heap := hP
  refine lv_aload_n hx hb dX1_strike_0 rfl (lv_at hl 0 rfl) ?_
  refine lv_iconst (v := nI (0)) hx hb dX1_strike_1 (by decide) ?_
  refine va_put (D := D) (ci := 1) (v := .int (nI (0))) (ty := .int) (C := RX1) (T := TX1) (N := 8) hx hb hts i_X1 tyX1 tyX1_ok nmX1 hown hK hP (mx_D hap κ _ _ _ _ _ _ _ _) hS 0 rfl rfl 0 (by decide) (hts _ q_f_X1_19) (fun _ h9 => h9) rfl (by decide +kernel) rfl rfl (Nat.le_of_ble_eq_true rfl) dX1_strike_2 (fun H locs hP _ hS => ?_)
  have hP : va_P D vwCl (mw κ b 0 v) H := hP
  refine lv_aload_n hx hb dX1_strike_5 rfl (lv_at hl 0 rfl) ?_
  refine lv_iload_n hx hb dX1_strike_6 rfl (lv_at hl 1 rfl) ?_
  refine rd_V (rest := []) ⟨hx, hb, hml, hown, hts⟩ (c_X1_isToss l D κ b 0 v hv (nI (k_))) g_X1_94 n_X1_isToss ⟨Nat.le_of_ble_eq_true rfl, Nat.le_of_ble_eq_true rfl⟩ hK hP rfl rfl rfl hl.1 rfl (Nat.le_of_ble_eq_true rfl) dX1_strike_7 ⟨Nat.zero_le _, Nat.zero_le _⟩ ?_
  refine nv_topi (congrArg bI (show (ix_ (nI (k_)) (vs_t v) : Bool) = true from by exact ix_nI (j := k_) (by omega) (by omega))) ?_
  refine bv_if_ne (tgt := 19) hx hb dX1_strike_10 (by decide) (fun c_10 => ?_) (fun z => absurd z (by simp))
  refine lv_aload_n hx hb dX1_strike_19 rfl (lv_at hl 0 rfl) ?_
  refine lv_aload_n hx hb dX1_strike_20 rfl (lv_at hl 0 rfl) ?_
  refine va_get (D := D) (ci := 1) (v := .int (nI (rw_ v))) (C := RX1) (T := TX1) (N := 8) hx hb hts i_X1 hown hK hP 0 rfl rfl 4 (by decide) (hts _ q_f_X1_36) (fun _ h9 => h9) rfl dX1_strike_21 ?_
  refine lv_iload_n hx hb dX1_strike_24 rfl (lv_at hl 1 rfl) ?_
  refine rd_S (rest := [.ref (b 0)]) ⟨hx, hb, hml, hown, hts⟩ (c_X1_without l (vs_th v) (vs_t v) (k_) (by omega) (by omega)) g_X1_91 n_X1_without ⟨Nat.le_of_ble_eq_true rfl, Nat.le_of_ble_eq_true rfl⟩ rfl hl.1 rfl (Nat.le_of_ble_eq_true rfl) dX1_strike_25 ⟨Nat.zero_le _, Nat.zero_le _⟩ ?_
  refine va_put (D := D) (ci := 1) (v := .int (nI (rn_ (sh_ (vs_th v) k_ ((vs_t v) - 1)) ((vs_t v) - 1)))) (ty := .int) (C := RX1) (T := TX1) (N := 8) hx hb hts i_X1 tyX1 tyX1_ok nmX1 hown hK hP (mx_D hap κ _ _ _ _ _ _ _ _) hS 0 rfl rfl 4 (by decide) (hts _ q_f_X1_36) (fun _ h9 => h9) rfl (by decide +kernel) rfl rfl (Nat.le_of_ble_eq_true rfl) dX1_strike_28 (fun H locs hP _ hS => ?_)
  have hP : va_P D vwCl (mx_ κ b 0 (vs_c v) (vs_n v) (vs_t v) (rn_ (sh_ (vs_th v) k_ ((vs_t v) - 1)) ((vs_t v) - 1)) (vs_ct v) (vs_so v) (ms_ v)) H := hP
  refine lv_aload_n hx hb dX1_strike_31 rfl (lv_at hl 0 rfl) ?_
  refine lv_dup hx hb dX1_strike_32 rfl ?_
  refine va_get (D := D) (ci := 1) (v := .int (nI (vs_t v))) (C := RX1) (T := TX1) (N := 8) hx hb hts i_X1 hown hK hP 0 rfl rfl 3 (by decide) (hts _ q_f_X1_33) (fun _ h9 => h9) rfl dX1_strike_33 ?_
  refine lv_iconst (v := nI (1)) hx hb dX1_strike_36 (by decide) ?_
  refine nv_isub (r := (vs_t v) - 1) hx hb dX1_strike_37 (by omega) ?_
  refine va_put (D := D) (ci := 1) (v := .int (nI ((vs_t v) - 1))) (ty := .int) (C := RX1) (T := TX1) (N := 8) hx hb hts i_X1 tyX1 tyX1_ok nmX1 hown hK hP (mx_D hap κ _ _ _ _ _ _ _ _) hS 0 rfl rfl 3 (by decide) (hts _ q_f_X1_33) (fun _ h9 => h9) rfl (by decide +kernel) rfl rfl (Nat.le_of_ble_eq_true rfl) dX1_strike_38 (fun H locs hP _ hS => ?_)
  have hP : va_P D vwCl (mx_ κ b 0 (vs_c v) (vs_n v) ((vs_t v) - 1) (rn_ (sh_ (vs_th v) k_ ((vs_t v) - 1)) ((vs_t v) - 1)) (vs_ct v) (vs_so v) (ms_ v)) H := hP
  refine lv_aload_n hx hb dX1_strike_41 rfl (lv_at hl 0 rfl) ?_
  refine va_get (D := D) (ci := 1) (v := .int (nI ((vs_t v) - 1))) (C := RX1) (T := TX1) (N := 8) hx hb hts i_X1 hown hK hP 0 rfl rfl 3 (by decide) (hts _ q_f_X1_33) (fun _ h9 => h9) rfl dX1_strike_42 ?_
  have hP : va_P D vwCl (mw κ b 0 (nx_strike v k_)) H := by
    have e9 : mx_ κ b 0 (vs_c v) (vs_n v) ((vs_t v) - 1) (rn_ (sh_ (vs_th v) k_ ((vs_t v) - 1)) ((vs_t v) - 1)) (vs_ct v) (vs_so v) (ms_ v) = mw κ b 0 (nx_strike v k_) := by rfl
    rw [← e9]
    exact hP
  refine nv_topi (congrArg nI (show ((vs_t v) - 1 : Nat) = vs_t v - 1 from by first | rfl | omega)) ?_
  exact hend _ _ _ _ dX1_strike_45 hP hS
set_option maxHeartbeats 4000000 in
set_option maxRecDepth 100000 in
theorem c_X1_coins_ok (l : Launch) (D : va_G) (κ : Nat → ClassId) (b : Nat → Nat) (u : Nat) (v : VS) (hv : ok_v v) (hap : ap_ b 4) : Wr l yX1_coins cX1_coins 1 (some .int) 1 21 (Pw D (kt_ κ) (mw κ b u v) [.ref (b 0)]) D (mw κ b 0 v) (ma_ b) (some (.int (nI (vs_c v)))) := by
  refine wr_intro (own := RX1) (by decide +kernel) rfl (Nat.le_of_ble_eq_true rfl) (fun p e s m args below meth c pc ls H locs hx hb hr hlk d h1 h2 => rew_I hx hb hr hlk d h1 h2) ?_
  intro p e s m args below meth c ls Qq hx hb hml hown hts hK hP hS hend hl
  have hl : lv_has ls 1 [(0, .ref (b 0))] := hl
  obtain ⟨hv1, hv2, hv3, hv4, hv5, hv6⟩ := id hv
  have hP : va_P D vwCl (mw κ b u v) s.heap := hP
  refine lv_aload_n hx hb dX1_coins_0 rfl (lv_at hl 0 rfl) ?_
  refine lv_aload_n hx hb dX1_coins_1 rfl (lv_at hl 0 rfl) ?_
  refine va_get (D := D) (ci := 1) (v := .int (nI (vs_c v))) (C := RX1) (T := TX1) (N := 8) hx hb hts i_X1 hown hK hP 0 rfl rfl 1 (by decide) (hts _ q_f_X1_23) (fun _ h9 => h9) rfl dX1_coins_2 ?_
  refine wr_V (rest := []) ⟨hx, hb, hml, hown, hts⟩ (c_X1_told_ok l D κ b u v hv hap (nI (vs_c v))) g_X1_97 n_X1_told ⟨Nat.le_of_ble_eq_true rfl, Nat.le_of_ble_eq_true rfl⟩ hK hP rfl rfl rfl hl.1 rfl (Nat.le_of_ble_eq_true rfl) dX1_coins_5 ⟨Nat.zero_le _, Nat.zero_le _⟩ hS (fun _ h => h) (fun H locs hP hS _ _ => ?_)
  have hP : va_P D vwCl (mw κ b 0 v) H := hP
  refine nv_topi (show ((nI (vs_c v)) : Int32) = nI (vs_c v) from by first | rfl | omega) ?_
  exact hend _ _ _ _ dX1_coins_8 hP hS
set_option maxHeartbeats 4000000 in
set_option maxRecDepth 100000 in
theorem c_X1_schools_ok (l : Launch) (D : va_G) (κ : Nat → ClassId) (b : Nat → Nat) (u : Nat) (v : VS) (hv : ok_v v) (hap : ap_ b 4) : Wr l yX1_schools cX1_schools 1 (some .int) 1 21 (Pw D (kt_ κ) (mw κ b u v) [.ref (b 0)]) D (mw κ b 0 v) (ma_ b) (some (.int (nI (vs_n v)))) := by
  refine wr_intro (own := RX1) (by decide +kernel) rfl (Nat.le_of_ble_eq_true rfl) (fun p e s m args below meth c pc ls H locs hx hb hr hlk d h1 h2 => rew_I hx hb hr hlk d h1 h2) ?_
  intro p e s m args below meth c ls Qq hx hb hml hown hts hK hP hS hend hl
  have hl : lv_has ls 1 [(0, .ref (b 0))] := hl
  obtain ⟨hv1, hv2, hv3, hv4, hv5, hv6⟩ := id hv
  have hP : va_P D vwCl (mw κ b u v) s.heap := hP
  refine lv_aload_n hx hb dX1_schools_0 rfl (lv_at hl 0 rfl) ?_
  refine lv_aload_n hx hb dX1_schools_1 rfl (lv_at hl 0 rfl) ?_
  refine va_get (D := D) (ci := 1) (v := .int (nI (vs_n v))) (C := RX1) (T := TX1) (N := 8) hx hb hts i_X1 hown hK hP 0 rfl rfl 2 (by decide) (hts _ q_f_X1_30) (fun _ h9 => h9) rfl dX1_schools_2 ?_
  refine wr_V (rest := []) ⟨hx, hb, hml, hown, hts⟩ (c_X1_told_ok l D κ b u v hv hap (nI (vs_n v))) g_X1_97 n_X1_told ⟨Nat.le_of_ble_eq_true rfl, Nat.le_of_ble_eq_true rfl⟩ hK hP rfl rfl rfl hl.1 rfl (Nat.le_of_ble_eq_true rfl) dX1_schools_5 ⟨Nat.zero_le _, Nat.zero_le _⟩ hS (fun _ h => h) (fun H locs hP hS _ _ => ?_)
  have hP : va_P D vwCl (mw κ b 0 v) H := hP
  refine nv_topi (show ((nI (vs_n v)) : Int32) = nI (vs_n v) from by first | rfl | omega) ?_
  exact hend _ _ _ _ dX1_schools_8 hP hS
set_option maxHeartbeats 4000000 in
set_option maxRecDepth 100000 in
theorem c_X1_tosses_ok (l : Launch) (D : va_G) (κ : Nat → ClassId) (b : Nat → Nat) (u : Nat) (v : VS) (hv : ok_v v) (hap : ap_ b 4) : Wr l yX1_tosses cX1_tosses 1 (some .int) 1 21 (Pw D (kt_ κ) (mw κ b u v) [.ref (b 0)]) D (mw κ b 0 v) (ma_ b) (some (.int (nI (vs_t v)))) := by
  refine wr_intro (own := RX1) (by decide +kernel) rfl (Nat.le_of_ble_eq_true rfl) (fun p e s m args below meth c pc ls H locs hx hb hr hlk d h1 h2 => rew_I hx hb hr hlk d h1 h2) ?_
  intro p e s m args below meth c ls Qq hx hb hml hown hts hK hP hS hend hl
  have hl : lv_has ls 1 [(0, .ref (b 0))] := hl
  obtain ⟨hv1, hv2, hv3, hv4, hv5, hv6⟩ := id hv
  have hP : va_P D vwCl (mw κ b u v) s.heap := hP
  refine lv_aload_n hx hb dX1_tosses_0 rfl (lv_at hl 0 rfl) ?_
  refine lv_aload_n hx hb dX1_tosses_1 rfl (lv_at hl 0 rfl) ?_
  refine va_get (D := D) (ci := 1) (v := .int (nI (vs_t v))) (C := RX1) (T := TX1) (N := 8) hx hb hts i_X1 hown hK hP 0 rfl rfl 3 (by decide) (hts _ q_f_X1_33) (fun _ h9 => h9) rfl dX1_tosses_2 ?_
  refine wr_V (rest := []) ⟨hx, hb, hml, hown, hts⟩ (c_X1_told_ok l D κ b u v hv hap (nI (vs_t v))) g_X1_97 n_X1_told ⟨Nat.le_of_ble_eq_true rfl, Nat.le_of_ble_eq_true rfl⟩ hK hP rfl rfl rfl hl.1 rfl (Nat.le_of_ble_eq_true rfl) dX1_tosses_5 ⟨Nat.zero_le _, Nat.zero_le _⟩ hS (fun _ h => h) (fun H locs hP hS _ _ => ?_)
  have hP : va_P D vwCl (mw κ b 0 v) H := hP
  refine nv_topi (show ((nI (vs_t v)) : Int32) = nI (vs_t v) from by first | rfl | omega) ?_
  exact hend _ _ _ _ dX1_tosses_8 hP hS
set_option maxHeartbeats 4000000 in
set_option maxRecDepth 100000 in
theorem c_X1_heads_ok (l : Launch) (D : va_G) (κ : Nat → ClassId) (b : Nat → Nat) (u : Nat) (v : VS) (hv : ok_v v) (hap : ap_ b 4) : Wr l yX1_heads cX1_heads 1 (some .int) 2 43 (Pw D (kt_ κ) (mw κ b u v) [.ref (b 0)]) D (mw κ b 0 v) (ma_ b) (some (.int (nI (hh_ v)))) := by
  refine wr_intro (own := RX1) (by decide +kernel) rfl (Nat.le_of_ble_eq_true rfl) (fun p e s m args below meth c pc ls H locs hx hb hr hlk d h1 h2 => rew_I hx hb hr hlk d h1 h2) ?_
  intro p e s m args below meth c ls Qq hx hb hml hown hts hK hP hS hend hl
  have hl : lv_has ls 1 [(0, .ref (b 0))] := hl
  obtain ⟨hv1, hv2, hv3, hv4, hv5, hv6⟩ := id hv
  have hP : va_P D vwCl (mw κ b u v) s.heap := hP
  refine lv_aload_n hx hb dX1_heads_0 rfl (lv_at hl 0 rfl) ?_
  refine lv_aload_n hx hb dX1_heads_1 rfl (lv_at hl 0 rfl) ?_
  refine rd_V (rest := [.ref (b 0)]) ⟨hx, hb, hml, hown, hts⟩ (c_X1_headsNow l D κ b u v hv) g_X1_69 n_X1_headsNow ⟨Nat.le_of_ble_eq_true rfl, Nat.le_of_ble_eq_true rfl⟩ hK hP rfl rfl rfl hl.1 rfl (Nat.le_of_ble_eq_true rfl) dX1_heads_2 ⟨Nat.zero_le _, Nat.zero_le _⟩ ?_
  refine wr_V (rest := []) ⟨hx, hb, hml, hown, hts⟩ (c_X1_told_ok l D κ b u v hv hap (nI (hh_ v))) g_X1_97 n_X1_told ⟨Nat.le_of_ble_eq_true rfl, Nat.le_of_ble_eq_true rfl⟩ hK hP rfl rfl rfl hl.1 rfl (Nat.le_of_ble_eq_true rfl) dX1_heads_5 ⟨Nat.zero_le _, Nat.zero_le _⟩ hS (fun _ h => h) (fun H locs hP hS _ _ => ?_)
  have hP : va_P D vwCl (mw κ b 0 v) H := hP
  refine nv_topi (show ((nI (hh_ v)) : Int32) = nI (hh_ v) from by first | rfl | omega) ?_
  exact hend _ _ _ _ dX1_heads_8 hP hS
set_option maxHeartbeats 4000000 in
set_option maxRecDepth 100000 in
theorem c_X1_ruledOut_ok (l : Launch) (D : va_G) (κ : Nat → ClassId) (b : Nat → Nat) (u : Nat) (v : VS) (hv : ok_v v) (hap : ap_ b 4) : Wr l yX1_ruledOut cX1_ruledOut 1 (some .int) 5 113 (Pw D (kt_ κ) (mw κ b u v) [.ref (b 0)]) D (mw κ b 0 v) (ma_ b) (some (.int (nI (go_ v)))) := by
  refine wr_intro (own := RX1) (by decide +kernel) rfl (Nat.le_of_ble_eq_true rfl) (fun p e s m args below meth c pc ls H locs hx hb hr hlk d h1 h2 => rew_I hx hb hr hlk d h1 h2) ?_
  intro p e s m args below meth c ls Qq hx hb hml hown hts hK hP hS hend hl
  have hl : lv_has ls 1 [(0, .ref (b 0))] := hl
  obtain ⟨hv1, hv2, hv3, hv4, hv5, hv6⟩ := id hv
  have hP : va_P D vwCl (mw κ b u v) s.heap := hP
  refine lv_aload_n hx hb dX1_ruledOut_0 rfl (lv_at hl 0 rfl) ?_
  refine lv_aload_n hx hb dX1_ruledOut_1 rfl (lv_at hl 0 rfl) ?_
  refine rd_V (rest := [.ref (b 0)]) ⟨hx, hb, hml, hown, hts⟩ (c_X1_gone l D κ b u v hv) g_X1_117 n_X1_gone ⟨Nat.le_of_ble_eq_true rfl, Nat.le_of_ble_eq_true rfl⟩ hK hP rfl rfl rfl hl.1 rfl (Nat.le_of_ble_eq_true rfl) dX1_ruledOut_2 ⟨Nat.zero_le _, Nat.zero_le _⟩ ?_
  refine wr_V (rest := []) ⟨hx, hb, hml, hown, hts⟩ (c_X1_told_ok l D κ b u v hv hap (nI (go_ v))) g_X1_97 n_X1_told ⟨Nat.le_of_ble_eq_true rfl, Nat.le_of_ble_eq_true rfl⟩ hK hP rfl rfl rfl hl.1 rfl (Nat.le_of_ble_eq_true rfl) dX1_ruledOut_5 ⟨Nat.zero_le _, Nat.zero_le _⟩ hS (fun _ h => h) (fun H locs hP hS _ _ => ?_)
  have hP : va_P D vwCl (mw κ b 0 v) H := hP
  refine nv_topi (show ((nI (go_ v)) : Int32) = nI (go_ v) from by first | rfl | omega) ?_
  exact hend _ _ _ _ dX1_ruledOut_8 hP hS
set_option maxHeartbeats 4000000 in
set_option maxRecDepth 100000 in
theorem c_X1_allSurprise_ok (l : Launch) (D : va_G) (κ : Nat → ClassId) (b : Nat → Nat) (u : Nat) (v : VS) (hv : ok_v v) (hap : ap_ b 4) (hpp : pp_ v) : Wr l yX1_allSurprise cX1_allSurprise 1 (some .int) 8 190 (Pw D (kt_ κ) (mw κ b u v) [.ref (b 0)]) D (mw κ b 0 v) (ma_ b) (some (.int (nI (as_ v)))) := by
  refine wr_intro (own := RX1) (by decide +kernel) rfl (Nat.le_of_ble_eq_true rfl) (fun p e s m args below meth c pc ls H locs hx hb hr hlk d h1 h2 => rew_I hx hb hr hlk d h1 h2) ?_
  intro p e s m args below meth c ls Qq hx hb hml hown hts hK hP hS hend hl
  have hl : lv_has ls 1 [(0, .ref (b 0))] := hl
  obtain ⟨hv1, hv2, hv3, hv4, hv5, hv6⟩ := id hv
  have hP : va_P D vwCl (mw κ b u v) s.heap := hP
  refine lv_aload_n hx hb dX1_allSurprise_0 rfl (lv_at hl 0 rfl) ?_
  refine lv_aload_n hx hb dX1_allSurprise_1 rfl (lv_at hl 0 rfl) ?_
  refine rd_V (rest := [.ref (b 0)]) ⟨hx, hb, hml, hown, hts⟩ (c_X1_surprises l D κ b u v hv (hpp)) g_X1_130 n_X1_surprises ⟨Nat.le_of_ble_eq_true rfl, Nat.le_of_ble_eq_true rfl⟩ hK hP rfl rfl rfl hl.1 rfl (Nat.le_of_ble_eq_true rfl) dX1_allSurprise_2 ⟨Nat.zero_le _, Nat.zero_le _⟩ ?_
  refine wr_V (rest := []) ⟨hx, hb, hml, hown, hts⟩ (c_X1_told_ok l D κ b u v hv hap (nI (as_ v))) g_X1_97 n_X1_told ⟨Nat.le_of_ble_eq_true rfl, Nat.le_of_ble_eq_true rfl⟩ hK hP rfl rfl rfl hl.1 rfl (Nat.le_of_ble_eq_true rfl) dX1_allSurprise_5 ⟨Nat.zero_le _, Nat.zero_le _⟩ hS (fun _ h => h) (fun H locs hP hS _ _ => ?_)
  have hP : va_P D vwCl (mw κ b 0 v) H := hP
  refine nv_topi (show ((nI (as_ v)) : Int32) = nI (as_ v) from by first | rfl | omega) ?_
  exact hend _ _ _ _ dX1_allSurprise_8 hP hS
set_option maxHeartbeats 4000000 in
set_option maxRecDepth 100000 in
theorem c_X1_decisiveTosses_ok (l : Launch) (D : va_G) (κ : Nat → ClassId) (b : Nat → Nat) (u : Nat) (v : VS) (hv : ok_v v) (hap : ap_ b 4) : Wr l yX1_decisiveTosses cX1_decisiveTosses 1 (some .int) 6 139 (Pw D (kt_ κ) (mw κ b u v) [.ref (b 0)]) D (mw κ b 0 v) (ma_ b) (some (.int (nI (dc_ v)))) := by
  refine wr_intro (own := RX1) (by decide +kernel) rfl (Nat.le_of_ble_eq_true rfl) (fun p e s m args below meth c pc ls H locs hx hb hr hlk d h1 h2 => rew_I hx hb hr hlk d h1 h2) ?_
  intro p e s m args below meth c ls Qq hx hb hml hown hts hK hP hS hend hl
  have hl : lv_has ls 1 [(0, .ref (b 0))] := hl
  obtain ⟨hv1, hv2, hv3, hv4, hv5, hv6⟩ := id hv
  have hP : va_P D vwCl (mw κ b u v) s.heap := hP
  refine lv_aload_n hx hb dX1_decisiveTosses_0 rfl (lv_at hl 0 rfl) ?_
  refine lv_aload_n hx hb dX1_decisiveTosses_1 rfl (lv_at hl 0 rfl) ?_
  refine rd_V (rest := [.ref (b 0)]) ⟨hx, hb, hml, hown, hts⟩ (c_X1_decisive l D κ b u v hv) g_X1_139 n_X1_decisive ⟨Nat.le_of_ble_eq_true rfl, Nat.le_of_ble_eq_true rfl⟩ hK hP rfl rfl rfl hl.1 rfl (Nat.le_of_ble_eq_true rfl) dX1_decisiveTosses_2 ⟨Nat.zero_le _, Nat.zero_le _⟩ ?_
  refine wr_V (rest := []) ⟨hx, hb, hml, hown, hts⟩ (c_X1_told_ok l D κ b u v hv hap (nI (dc_ v))) g_X1_97 n_X1_told ⟨Nat.le_of_ble_eq_true rfl, Nat.le_of_ble_eq_true rfl⟩ hK hP rfl rfl rfl hl.1 rfl (Nat.le_of_ble_eq_true rfl) dX1_decisiveTosses_5 ⟨Nat.zero_le _, Nat.zero_le _⟩ hS (fun _ h => h) (fun H locs hP hS _ _ => ?_)
  have hP : va_P D vwCl (mw κ b 0 v) H := hP
  refine nv_topi (show ((nI (dc_ v)) : Int32) = nI (dc_ v) from by first | rfl | omega) ?_
  exact hend _ _ _ _ dX1_decisiveTosses_8 hP hS
set_option maxHeartbeats 4000000 in
set_option maxRecDepth 100000 in
theorem c_X1_wholeWeight_ok (l : Launch) (D : va_G) (κ : Nat → ClassId) (b : Nat → Nat) (u : Nat) (v : VS) (hv : ok_v v) (hap : ap_ b 4) : Wr l yX1_wholeWeight cX1_wholeWeight 1 (some .long) 5 115 (Pw D (kt_ κ) (mw κ b u v) [.ref (b 0)]) D (mw κ b 0 v) (ma_ b) (some (.long (lN (wl_ v (hh_ v) (tt_ v))))) := by
  refine wr_intro (own := RX1) (by decide +kernel) rfl (Nat.le_of_ble_eq_true rfl) (fun p e s m args below meth c pc ls H locs hx hb hr hlk d h1 h2 => rew_L hx hb hr hlk d h1 h2) ?_
  intro p e s m args below meth c ls Qq hx hb hml hown hts hK hP hS hend hl
  have hl : lv_has ls 1 [(0, .ref (b 0))] := hl
  obtain ⟨hv1, hv2, hv3, hv4, hv5, hv6⟩ := id hv
  have hP : va_P D vwCl (mw κ b u v) s.heap := hP
  refine lv_aload_n hx hb dX1_wholeWeight_0 rfl (lv_at hl 0 rfl) ?_
  refine lv_iconst (v := nI (0)) hx hb dX1_wholeWeight_1 (by decide) ?_
  refine va_put (D := D) (ci := 1) (v := .int (nI (0))) (ty := .int) (C := RX1) (T := TX1) (N := 8) hx hb hts i_X1 tyX1 tyX1_ok nmX1 hown hK hP (mx_D hap κ _ _ _ _ _ _ _ _) hS 0 rfl rfl 0 (by decide) (hts _ q_f_X1_19) (fun _ h9 => h9) rfl (by decide +kernel) rfl rfl (Nat.le_of_ble_eq_true rfl) dX1_wholeWeight_2 (fun H locs hP _ hS => ?_)
  have hP : va_P D vwCl (mw κ b 0 v) H := hP
  refine lv_aload_n hx hb dX1_wholeWeight_5 rfl (lv_at hl 0 rfl) ?_
  refine rd_V (rest := []) ⟨hx, hb, hml, hown, hts⟩ (c_X1_all l D κ b 0 v hv) g_X1_113 n_X1_all ⟨Nat.le_of_ble_eq_true rfl, Nat.le_of_ble_eq_true rfl⟩ hK hP rfl rfl rfl hl.1 rfl (Nat.le_of_ble_eq_true rfl) dX1_wholeWeight_6 ⟨Nat.zero_le _, Nat.zero_le _⟩ ?_
  exact hend _ _ _ _ dX1_wholeWeight_9 hP hS
set_option maxHeartbeats 4000000 in
set_option maxRecDepth 100000 in
theorem c_X1_isHeads_x1 (l : Launch) (D : va_G) (κ : Nat → ClassId) (b : Nat → Nat) (u : Nat) (v : VS) (hv : ok_v v) (hap : ap_ b 4) (x : Int32) (hx0 : ix_ x (vs_t v) = false) : Wr l yX1_isHeads cX1_isHeads 2 (some .boolean) 2 43 (Pw D (kt_ κ) (mw κ b u v) [.ref (b 0), .int (x)]) D (mw κ b 1 v) (ma_ b) (some (.int (bI (false)))) := by
  refine wr_intro (own := RX1) (by decide +kernel) rfl (Nat.le_of_ble_eq_true rfl) (fun p e s m args below meth c pc ls H locs hx hb hr hlk d h1 h2 => rew_Z hx hb hr hlk d h1 h2) ?_
  intro p e s m args below meth c ls Qq hx hb hml hown hts hK hP hS hend hl
  have hl : lv_has ls 2 [(0, .ref (b 0)), (1, .int (x))] := hl
  obtain ⟨hv1, hv2, hv3, hv4, hv5, hv6⟩ := id hv
  have hP : va_P D vwCl (mw κ b u v) s.heap := hP
  refine lv_aload_n hx hb dX1_isHeads_0 rfl (lv_at hl 0 rfl) ?_
  refine lv_aload_n hx hb dX1_isHeads_1 rfl (lv_at hl 0 rfl) ?_
  refine lv_iload_n hx hb dX1_isHeads_2 rfl (lv_at hl 1 rfl) ?_
  refine rd_V (rest := [.ref (b 0)]) ⟨hx, hb, hml, hown, hts⟩ (c_X1_isToss l D κ b u v hv (x)) g_X1_94 n_X1_isToss ⟨Nat.le_of_ble_eq_true rfl, Nat.le_of_ble_eq_true rfl⟩ hK hP rfl rfl rfl hl.1 rfl (Nat.le_of_ble_eq_true rfl) dX1_isHeads_3 ⟨Nat.zero_le _, Nat.zero_le _⟩ ?_
  refine bv_if_eq (tgt := 13) hx hb dX1_isHeads_6 (by decide) (fun c_6 => ?_) (fun z => absurd z (by simp [hx0]))
  refine lv_iconst (v := nI (1)) hx hb dX1_isHeads_13 (by decide) ?_
  refine va_put (D := D) (ci := 1) (v := .int (nI (1))) (ty := .int) (C := RX1) (T := TX1) (N := 8) hx hb hts i_X1 tyX1 tyX1_ok nmX1 hown hK hP (mx_D hap κ _ _ _ _ _ _ _ _) hS 0 rfl rfl 0 (by decide) (hts _ q_f_X1_19) (fun _ h9 => h9) rfl (by decide +kernel) rfl rfl (Nat.le_of_ble_eq_true rfl) dX1_isHeads_14 (fun H locs hP _ hS => ?_)
  have hP : va_P D vwCl (mw κ b 1 v) H := hP
  refine lv_aload_n hx hb dX1_isHeads_17 rfl (lv_at hl 0 rfl) ?_
  refine va_get (D := D) (ci := 1) (v := .int (nI (1))) (C := RX1) (T := TX1) (N := 8) hx hb hts i_X1 hown hK hP 0 rfl rfl 0 (by decide) (hts _ q_f_X1_19) (fun _ h9 => h9) rfl dX1_isHeads_18 ?_
  refine nv_if_ne (tgt := 36) hx hb dX1_isHeads_21 (by decide) (by omega) (fun c_21 => ?_) (fun z => absurd z (by omega))
  refine lv_iconst (v := nI (0)) hx hb dX1_isHeads_36 (by decide) ?_
  refine nv_topi (show (nI (0) : Int32) = bI (false) from by rfl) ?_
  exact hend _ _ _ _ dX1_isHeads_37 hP hS
set_option maxHeartbeats 4000000 in
set_option maxRecDepth 100000 in
theorem c_X1_isHeads_ok (l : Launch) (D : va_G) (κ : Nat → ClassId) (b : Nat → Nat) (u : Nat) (v : VS) (hv : ok_v v) (hap : ap_ b 4) (t_ : Nat) (ht : t_ < vs_t v) : Wr l yX1_isHeads cX1_isHeads 2 (some .boolean) 2 43 (Pw D (kt_ κ) (mw κ b u v) [.ref (b 0), .int (nI (t_))]) D (mw κ b 0 v) (ma_ b) (some (.int (bI (vs_th v t_)))) := by
  refine wr_intro (own := RX1) (by decide +kernel) rfl (Nat.le_of_ble_eq_true rfl) (fun p e s m args below meth c pc ls H locs hx hb hr hlk d h1 h2 => rew_Z hx hb hr hlk d h1 h2) ?_
  intro p e s m args below meth c ls Qq hx hb hml hown hts hK hP hS hend hl
  have hl : lv_has ls 2 [(0, .ref (b 0)), (1, .int (nI (t_)))] := hl
  obtain ⟨hv1, hv2, hv3, hv4, hv5, hv6⟩ := id hv
  have hP : va_P D vwCl (mw κ b u v) s.heap := hP
  refine lv_aload_n hx hb dX1_isHeads_0 rfl (lv_at hl 0 rfl) ?_
  refine lv_aload_n hx hb dX1_isHeads_1 rfl (lv_at hl 0 rfl) ?_
  refine lv_iload_n hx hb dX1_isHeads_2 rfl (lv_at hl 1 rfl) ?_
  refine rd_V (rest := [.ref (b 0)]) ⟨hx, hb, hml, hown, hts⟩ (c_X1_isToss l D κ b u v hv (nI (t_))) g_X1_94 n_X1_isToss ⟨Nat.le_of_ble_eq_true rfl, Nat.le_of_ble_eq_true rfl⟩ hK hP rfl rfl rfl hl.1 rfl (Nat.le_of_ble_eq_true rfl) dX1_isHeads_3 ⟨Nat.zero_le _, Nat.zero_le _⟩ ?_
  refine nv_topi (congrArg bI (show (ix_ (nI (t_)) (vs_t v) : Bool) = true from by exact ix_nI (j := t_) (by omega) (by omega))) ?_
  refine bv_if_eq (tgt := 13) hx hb dX1_isHeads_6 (by decide) (fun z => absurd z (by simp)) (fun c_6 => ?_)
  refine lv_iconst (v := nI (0)) hx hb dX1_isHeads_9 (by decide) ?_
  refine lv_goto (tgt := 14) hx hb dX1_isHeads_10 (by decide) ?_
  refine va_put (D := D) (ci := 1) (v := .int (nI (0))) (ty := .int) (C := RX1) (T := TX1) (N := 8) hx hb hts i_X1 tyX1 tyX1_ok nmX1 hown hK hP (mx_D hap κ _ _ _ _ _ _ _ _) hS 0 rfl rfl 0 (by decide) (hts _ q_f_X1_19) (fun _ h9 => h9) rfl (by decide +kernel) rfl rfl (Nat.le_of_ble_eq_true rfl) dX1_isHeads_14 (fun H locs hP _ hS => ?_)
  have hP : va_P D vwCl (mw κ b 0 v) H := hP
  refine lv_aload_n hx hb dX1_isHeads_17 rfl (lv_at hl 0 rfl) ?_
  refine va_get (D := D) (ci := 1) (v := .int (nI (0))) (C := RX1) (T := TX1) (N := 8) hx hb hts i_X1 hown hK hP 0 rfl rfl 0 (by decide) (hts _ q_f_X1_19) (fun _ h9 => h9) rfl dX1_isHeads_18 ?_
  refine nv_if_ne (tgt := 36) hx hb dX1_isHeads_21 (by decide) (by omega) (fun z => absurd z (by omega)) (fun c_21 => ?_)
  refine lv_aload_n hx hb dX1_isHeads_24 rfl (lv_at hl 0 rfl) ?_
  refine lv_iload_n hx hb dX1_isHeads_25 rfl (lv_at hl 1 rfl) ?_
  refine rd_V (rest := []) ⟨hx, hb, hml, hown, hts⟩ (c_X1_isUp l D κ b 0 v hv (t_) (by omega)) g_X1_100 n_X1_isUp ⟨Nat.le_of_ble_eq_true rfl, Nat.le_of_ble_eq_true rfl⟩ hK hP rfl rfl rfl hl.1 rfl (Nat.le_of_ble_eq_true rfl) dX1_isHeads_26 ⟨Nat.zero_le _, Nat.zero_le _⟩ ?_
  refine bv_if_eq (tgt := 36) hx hb dX1_isHeads_29 (by decide) (fun c_29 => ?_) (fun c_29 => ?_)
  · refine lv_iconst (v := nI (0)) hx hb dX1_isHeads_36 (by decide) ?_
    refine nv_topi (show (nI (0) : Int32) = bI (vs_th v t_) from by rw [c_29]; rfl) ?_
    exact hend _ _ _ _ dX1_isHeads_37 hP hS
  · refine lv_iconst (v := nI (1)) hx hb dX1_isHeads_32 (by decide) ?_
    refine lv_goto (tgt := 37) hx hb dX1_isHeads_33 (by decide) ?_
    refine nv_topi (show (nI (1) : Int32) = bI (vs_th v t_) from by rw [c_29]; rfl) ?_
    exact hend _ _ _ _ dX1_isHeads_37 hP hS
set_option maxHeartbeats 4000000 in
set_option maxRecDepth 100000 in
theorem c_X1_tenthsOf_x1 (l : Launch) (D : va_G) (κ : Nat → ClassId) (b : Nat → Nat) (u : Nat) (v : VS) (hv : ok_v v) (hap : ap_ b 4) (x : Int32) (hx0 : ix_ x (vs_c v) = false) : Wr l yX1_tenthsOf cX1_tenthsOf 2 (some .int) 2 43 (Pw D (kt_ κ) (mw κ b u v) [.ref (b 0), .int (x)]) D (mw κ b 1 v) (ma_ b) (some (.int (nI (0)))) := by
  refine wr_intro (own := RX1) (by decide +kernel) rfl (Nat.le_of_ble_eq_true rfl) (fun p e s m args below meth c pc ls H locs hx hb hr hlk d h1 h2 => rew_I hx hb hr hlk d h1 h2) ?_
  intro p e s m args below meth c ls Qq hx hb hml hown hts hK hP hS hend hl
  have hl : lv_has ls 2 [(0, .ref (b 0)), (1, .int (x))] := hl
  obtain ⟨hv1, hv2, hv3, hv4, hv5, hv6⟩ := id hv
  have hP : va_P D vwCl (mw κ b u v) s.heap := hP
  refine lv_aload_n hx hb dX1_tenthsOf_0 rfl (lv_at hl 0 rfl) ?_
  refine lv_iconst (v := nI (0)) hx hb dX1_tenthsOf_1 (by decide) ?_
  refine va_put (D := D) (ci := 1) (v := .int (nI (0))) (ty := .int) (C := RX1) (T := TX1) (N := 8) hx hb hts i_X1 tyX1 tyX1_ok nmX1 hown hK hP (mx_D hap κ _ _ _ _ _ _ _ _) hS 0 rfl rfl 0 (by decide) (hts _ q_f_X1_19) (fun _ h9 => h9) rfl (by decide +kernel) rfl rfl (Nat.le_of_ble_eq_true rfl) dX1_tenthsOf_2 (fun H locs hP _ hS => ?_)
  have hP : va_P D vwCl (mw κ b 0 v) H := hP
  refine lv_aload_n hx hb dX1_tenthsOf_5 rfl (lv_at hl 0 rfl) ?_
  refine lv_iload_n hx hb dX1_tenthsOf_6 rfl (lv_at hl 1 rfl) ?_
  refine rd_V (rest := []) ⟨hx, hb, hml, hown, hts⟩ (c_X1_isCoin l D κ b 0 v hv (x)) g_X1_80 n_X1_isCoin ⟨Nat.le_of_ble_eq_true rfl, Nat.le_of_ble_eq_true rfl⟩ hK hP rfl rfl rfl hl.1 rfl (Nat.le_of_ble_eq_true rfl) dX1_tenthsOf_7 ⟨Nat.zero_le _, Nat.zero_le _⟩ ?_
  refine bv_if_eq (tgt := 22) hx hb dX1_tenthsOf_10 (by decide) (fun c_10 => ?_) (fun z => absurd z (by simp [hx0]))
  refine lv_aload_n hx hb dX1_tenthsOf_22 rfl (lv_at hl 0 rfl) ?_
  refine lv_iconst (v := nI (1)) hx hb dX1_tenthsOf_23 (by decide) ?_
  refine wr_V (rest := []) ⟨hx, hb, hml, hown, hts⟩ (c_X1_fail_ok l D κ b 0 v hv hap (1) (by omega)) g_X1_73 n_X1_fail ⟨Nat.le_of_ble_eq_true rfl, Nat.le_of_ble_eq_true rfl⟩ hK hP rfl rfl rfl hl.1 rfl (Nat.le_of_ble_eq_true rfl) dX1_tenthsOf_24 ⟨Nat.zero_le _, Nat.zero_le _⟩ hS (fun _ h => h) (fun H locs hP hS _ _ => ?_)
  have hP : va_P D vwCl (mw κ b 1 v) H := hP
  exact hend _ _ _ _ dX1_tenthsOf_27 hP hS
set_option maxHeartbeats 4000000 in
set_option maxRecDepth 100000 in
theorem c_X1_tenthsOf_ok (l : Launch) (D : va_G) (κ : Nat → ClassId) (b : Nat → Nat) (u : Nat) (v : VS) (hv : ok_v v) (hap : ap_ b 4) (c_ : Nat) (hj : c_ < vs_c v) : Wr l yX1_tenthsOf cX1_tenthsOf 2 (some .int) 2 43 (Pw D (kt_ κ) (mw κ b u v) [.ref (b 0), .int (nI (c_))]) D (mw κ b 0 v) (ma_ b) (some (.int (nI (vs_ct v c_)))) := by
  refine wr_intro (own := RX1) (by decide +kernel) rfl (Nat.le_of_ble_eq_true rfl) (fun p e s m args below meth c pc ls H locs hx hb hr hlk d h1 h2 => rew_I hx hb hr hlk d h1 h2) ?_
  intro p e s m args below meth c ls Qq hx hb hml hown hts hK hP hS hend hl
  have hl : lv_has ls 2 [(0, .ref (b 0)), (1, .int (nI (c_)))] := hl
  obtain ⟨hv1, hv2, hv3, hv4, hv5, hv6⟩ := id hv
  have hP : va_P D vwCl (mw κ b u v) s.heap := hP
  refine lv_aload_n hx hb dX1_tenthsOf_0 rfl (lv_at hl 0 rfl) ?_
  refine lv_iconst (v := nI (0)) hx hb dX1_tenthsOf_1 (by decide) ?_
  refine va_put (D := D) (ci := 1) (v := .int (nI (0))) (ty := .int) (C := RX1) (T := TX1) (N := 8) hx hb hts i_X1 tyX1 tyX1_ok nmX1 hown hK hP (mx_D hap κ _ _ _ _ _ _ _ _) hS 0 rfl rfl 0 (by decide) (hts _ q_f_X1_19) (fun _ h9 => h9) rfl (by decide +kernel) rfl rfl (Nat.le_of_ble_eq_true rfl) dX1_tenthsOf_2 (fun H locs hP _ hS => ?_)
  have hP : va_P D vwCl (mw κ b 0 v) H := hP
  refine lv_aload_n hx hb dX1_tenthsOf_5 rfl (lv_at hl 0 rfl) ?_
  refine lv_iload_n hx hb dX1_tenthsOf_6 rfl (lv_at hl 1 rfl) ?_
  refine rd_V (rest := []) ⟨hx, hb, hml, hown, hts⟩ (c_X1_isCoin l D κ b 0 v hv (nI (c_))) g_X1_80 n_X1_isCoin ⟨Nat.le_of_ble_eq_true rfl, Nat.le_of_ble_eq_true rfl⟩ hK hP rfl rfl rfl hl.1 rfl (Nat.le_of_ble_eq_true rfl) dX1_tenthsOf_7 ⟨Nat.zero_le _, Nat.zero_le _⟩ ?_
  refine nv_topi (congrArg bI (show (ix_ (nI (c_)) (vs_c v) : Bool) = true from by exact ix_nI (j := c_) (by omega) (by omega))) ?_
  refine bv_if_eq (tgt := 22) hx hb dX1_tenthsOf_10 (by decide) (fun z => absurd z (by simp)) (fun c_10 => ?_)
  refine lv_aload_n hx hb dX1_tenthsOf_13 rfl (lv_at hl 0 rfl) ?_
  refine va_get (D := D) (ci := 1) (v := .ref (b 1)) (C := RX1) (T := TX1) (N := 8) hx hb hts i_X1 hown hK hP 0 rfl rfl 5 (by decide) (hts _ q_f_X1_9) (fun _ h9 => h9) rfl dX1_tenthsOf_14 ?_
  refine lv_iload_n hx hb dX1_tenthsOf_17 rfl (lv_at hl 1 rfl) ?_
  refine nv_iald hx hb hK hP 1 0 (n := 8) (v := nI (vs_ct v c_)) rfl rfl (by omega) (by decide) rfl dX1_tenthsOf_18 ?_
  refine lv_goto (tgt := 27) hx hb dX1_tenthsOf_19 (by decide) ?_
  exact hend _ _ _ _ dX1_tenthsOf_27 hP hS
set_option maxHeartbeats 4000000 in
set_option maxRecDepth 100000 in
theorem c_X1_oddsOf_x1 (l : Launch) (D : va_G) (κ : Nat → ClassId) (b : Nat → Nat) (u : Nat) (v : VS) (hv : ok_v v) (hap : ap_ b 4) (x : Int32) (hx0 : ix_ x (vs_n v) = false) : Wr l yX1_oddsOf cX1_oddsOf 2 (some .int) 2 43 (Pw D (kt_ κ) (mw κ b u v) [.ref (b 0), .int (x)]) D (mw κ b 1 v) (ma_ b) (some (.int (nI (0)))) := by
  refine wr_intro (own := RX1) (by decide +kernel) rfl (Nat.le_of_ble_eq_true rfl) (fun p e s m args below meth c pc ls H locs hx hb hr hlk d h1 h2 => rew_I hx hb hr hlk d h1 h2) ?_
  intro p e s m args below meth c ls Qq hx hb hml hown hts hK hP hS hend hl
  have hl : lv_has ls 2 [(0, .ref (b 0)), (1, .int (x))] := hl
  obtain ⟨hv1, hv2, hv3, hv4, hv5, hv6⟩ := id hv
  have hP : va_P D vwCl (mw κ b u v) s.heap := hP
  refine lv_aload_n hx hb dX1_oddsOf_0 rfl (lv_at hl 0 rfl) ?_
  refine lv_iconst (v := nI (0)) hx hb dX1_oddsOf_1 (by decide) ?_
  refine va_put (D := D) (ci := 1) (v := .int (nI (0))) (ty := .int) (C := RX1) (T := TX1) (N := 8) hx hb hts i_X1 tyX1 tyX1_ok nmX1 hown hK hP (mx_D hap κ _ _ _ _ _ _ _ _) hS 0 rfl rfl 0 (by decide) (hts _ q_f_X1_19) (fun _ h9 => h9) rfl (by decide +kernel) rfl rfl (Nat.le_of_ble_eq_true rfl) dX1_oddsOf_2 (fun H locs hP _ hS => ?_)
  have hP : va_P D vwCl (mw κ b 0 v) H := hP
  refine lv_aload_n hx hb dX1_oddsOf_5 rfl (lv_at hl 0 rfl) ?_
  refine lv_iload_n hx hb dX1_oddsOf_6 rfl (lv_at hl 1 rfl) ?_
  refine rd_V (rest := []) ⟨hx, hb, hml, hown, hts⟩ (c_X1_isSchool l D κ b 0 v hv (x)) g_X1_76 n_X1_isSchool ⟨Nat.le_of_ble_eq_true rfl, Nat.le_of_ble_eq_true rfl⟩ hK hP rfl rfl rfl hl.1 rfl (Nat.le_of_ble_eq_true rfl) dX1_oddsOf_7 ⟨Nat.zero_le _, Nat.zero_le _⟩ ?_
  refine bv_if_eq (tgt := 22) hx hb dX1_oddsOf_10 (by decide) (fun c_10 => ?_) (fun z => absurd z (by simp [hx0]))
  refine lv_aload_n hx hb dX1_oddsOf_22 rfl (lv_at hl 0 rfl) ?_
  refine lv_iconst (v := nI (1)) hx hb dX1_oddsOf_23 (by decide) ?_
  refine wr_V (rest := []) ⟨hx, hb, hml, hown, hts⟩ (c_X1_fail_ok l D κ b 0 v hv hap (1) (by omega)) g_X1_73 n_X1_fail ⟨Nat.le_of_ble_eq_true rfl, Nat.le_of_ble_eq_true rfl⟩ hK hP rfl rfl rfl hl.1 rfl (Nat.le_of_ble_eq_true rfl) dX1_oddsOf_24 ⟨Nat.zero_le _, Nat.zero_le _⟩ hS (fun _ h => h) (fun H locs hP hS _ _ => ?_)
  have hP : va_P D vwCl (mw κ b 1 v) H := hP
  exact hend _ _ _ _ dX1_oddsOf_27 hP hS
set_option maxHeartbeats 4000000 in
set_option maxRecDepth 100000 in
theorem c_X1_oddsOf_ok (l : Launch) (D : va_G) (κ : Nat → ClassId) (b : Nat → Nat) (u : Nat) (v : VS) (hv : ok_v v) (hap : ap_ b 4) (s_ : Nat) (hj : s_ < vs_n v) : Wr l yX1_oddsOf cX1_oddsOf 2 (some .int) 2 43 (Pw D (kt_ κ) (mw κ b u v) [.ref (b 0), .int (nI (s_))]) D (mw κ b 0 v) (ma_ b) (some (.int (nI (vs_so v s_)))) := by
  refine wr_intro (own := RX1) (by decide +kernel) rfl (Nat.le_of_ble_eq_true rfl) (fun p e s m args below meth c pc ls H locs hx hb hr hlk d h1 h2 => rew_I hx hb hr hlk d h1 h2) ?_
  intro p e s m args below meth c ls Qq hx hb hml hown hts hK hP hS hend hl
  have hl : lv_has ls 2 [(0, .ref (b 0)), (1, .int (nI (s_)))] := hl
  obtain ⟨hv1, hv2, hv3, hv4, hv5, hv6⟩ := id hv
  have hP : va_P D vwCl (mw κ b u v) s.heap := hP
  refine lv_aload_n hx hb dX1_oddsOf_0 rfl (lv_at hl 0 rfl) ?_
  refine lv_iconst (v := nI (0)) hx hb dX1_oddsOf_1 (by decide) ?_
  refine va_put (D := D) (ci := 1) (v := .int (nI (0))) (ty := .int) (C := RX1) (T := TX1) (N := 8) hx hb hts i_X1 tyX1 tyX1_ok nmX1 hown hK hP (mx_D hap κ _ _ _ _ _ _ _ _) hS 0 rfl rfl 0 (by decide) (hts _ q_f_X1_19) (fun _ h9 => h9) rfl (by decide +kernel) rfl rfl (Nat.le_of_ble_eq_true rfl) dX1_oddsOf_2 (fun H locs hP _ hS => ?_)
  have hP : va_P D vwCl (mw κ b 0 v) H := hP
  refine lv_aload_n hx hb dX1_oddsOf_5 rfl (lv_at hl 0 rfl) ?_
  refine lv_iload_n hx hb dX1_oddsOf_6 rfl (lv_at hl 1 rfl) ?_
  refine rd_V (rest := []) ⟨hx, hb, hml, hown, hts⟩ (c_X1_isSchool l D κ b 0 v hv (nI (s_))) g_X1_76 n_X1_isSchool ⟨Nat.le_of_ble_eq_true rfl, Nat.le_of_ble_eq_true rfl⟩ hK hP rfl rfl rfl hl.1 rfl (Nat.le_of_ble_eq_true rfl) dX1_oddsOf_7 ⟨Nat.zero_le _, Nat.zero_le _⟩ ?_
  refine nv_topi (congrArg bI (show (ix_ (nI (s_)) (vs_n v) : Bool) = true from by exact ix_nI (j := s_) (by omega) (by omega))) ?_
  refine bv_if_eq (tgt := 22) hx hb dX1_oddsOf_10 (by decide) (fun z => absurd z (by simp)) (fun c_10 => ?_)
  refine lv_aload_n hx hb dX1_oddsOf_13 rfl (lv_at hl 0 rfl) ?_
  refine va_get (D := D) (ci := 1) (v := .ref (b 2)) (C := RX1) (T := TX1) (N := 8) hx hb hts i_X1 hown hK hP 0 rfl rfl 6 (by decide) (hts _ q_f_X1_13) (fun _ h9 => h9) rfl dX1_oddsOf_14 ?_
  refine lv_iload_n hx hb dX1_oddsOf_17 rfl (lv_at hl 1 rfl) ?_
  refine nv_iald hx hb hK hP 2 0 (n := 4) (v := nI (vs_so v s_)) rfl rfl (by omega) (by decide) rfl dX1_oddsOf_18 ?_
  refine lv_goto (tgt := 27) hx hb dX1_oddsOf_19 (by decide) ?_
  exact hend _ _ _ _ dX1_oddsOf_27 hP hS
set_option maxHeartbeats 4000000 in
set_option maxRecDepth 100000 in
theorem c_X1_coinWeight_x1 (l : Launch) (D : va_G) (κ : Nat → ClassId) (b : Nat → Nat) (u : Nat) (v : VS) (hv : ok_v v) (hap : ap_ b 4) (x : Int32) (hx0 : ix_ x (vs_c v) = false) : Wr l yX1_coinWeight cX1_coinWeight 2 (some .long) 4 91 (Pw D (kt_ κ) (mw κ b u v) [.ref (b 0), .int (x)]) D (mw κ b 1 v) (ma_ b) (some (.long (lN (0)))) := by
  refine wr_intro (own := RX1) (by decide +kernel) rfl (Nat.le_of_ble_eq_true rfl) (fun p e s m args below meth c pc ls H locs hx hb hr hlk d h1 h2 => rew_L hx hb hr hlk d h1 h2) ?_
  intro p e s m args below meth c ls Qq hx hb hml hown hts hK hP hS hend hl
  have hl : lv_has ls 2 [(0, .ref (b 0)), (1, .int (x))] := hl
  obtain ⟨hv1, hv2, hv3, hv4, hv5, hv6⟩ := id hv
  have hP : va_P D vwCl (mw κ b u v) s.heap := hP
  refine lv_aload_n hx hb dX1_coinWeight_0 rfl (lv_at hl 0 rfl) ?_
  refine lv_iconst (v := nI (0)) hx hb dX1_coinWeight_1 (by decide) ?_
  refine va_put (D := D) (ci := 1) (v := .int (nI (0))) (ty := .int) (C := RX1) (T := TX1) (N := 8) hx hb hts i_X1 tyX1 tyX1_ok nmX1 hown hK hP (mx_D hap κ _ _ _ _ _ _ _ _) hS 0 rfl rfl 0 (by decide) (hts _ q_f_X1_19) (fun _ h9 => h9) rfl (by decide +kernel) rfl rfl (Nat.le_of_ble_eq_true rfl) dX1_coinWeight_2 (fun H locs hP _ hS => ?_)
  have hP : va_P D vwCl (mw κ b 0 v) H := hP
  refine lv_aload_n hx hb dX1_coinWeight_5 rfl (lv_at hl 0 rfl) ?_
  refine lv_iload_n hx hb dX1_coinWeight_6 rfl (lv_at hl 1 rfl) ?_
  refine rd_V (rest := []) ⟨hx, hb, hml, hown, hts⟩ (c_X1_isCoin l D κ b 0 v hv (x)) g_X1_80 n_X1_isCoin ⟨Nat.le_of_ble_eq_true rfl, Nat.le_of_ble_eq_true rfl⟩ hK hP rfl rfl rfl hl.1 rfl (Nat.le_of_ble_eq_true rfl) dX1_coinWeight_7 ⟨Nat.zero_le _, Nat.zero_le _⟩ ?_
  refine bv_if_eq (tgt := 21) hx hb dX1_coinWeight_10 (by decide) (fun c_10 => ?_) (fun z => absurd z (by simp [hx0]))
  refine lv_aload_n hx hb dX1_coinWeight_21 rfl (lv_at hl 0 rfl) ?_
  refine lv_iconst (v := nI (1)) hx hb dX1_coinWeight_22 (by decide) ?_
  refine wr_V (rest := []) ⟨hx, hb, hml, hown, hts⟩ (c_X1_fail_ok l D κ b 0 v hv hap (1) (by omega)) g_X1_73 n_X1_fail ⟨Nat.le_of_ble_eq_true rfl, Nat.le_of_ble_eq_true rfl⟩ hK hP rfl rfl rfl hl.1 rfl (Nat.le_of_ble_eq_true rfl) dX1_coinWeight_23 ⟨Nat.zero_le _, Nat.zero_le _⟩ hS (fun _ h => h) (fun H locs hP hS _ _ => ?_)
  have hP : va_P D vwCl (mw κ b 1 v) H := hP
  refine nv_i2l hx hb dX1_coinWeight_26 (by omega) ?_
  exact hend _ _ _ _ dX1_coinWeight_27 hP hS
set_option maxHeartbeats 4000000 in
set_option maxRecDepth 100000 in
theorem c_X1_coinWeight_ok (l : Launch) (D : va_G) (κ : Nat → ClassId) (b : Nat → Nat) (u : Nat) (v : VS) (hv : ok_v v) (hap : ap_ b 4) (c_ : Nat) (hj : c_ < vs_c v) : Wr l yX1_coinWeight cX1_coinWeight 2 (some .long) 4 91 (Pw D (kt_ κ) (mw κ b u v) [.ref (b 0), .int (nI (c_))]) D (mw κ b 0 v) (ma_ b) (some (.long (lN (wt_ v c_ (hh_ v) (tt_ v))))) := by
  refine wr_intro (own := RX1) (by decide +kernel) rfl (Nat.le_of_ble_eq_true rfl) (fun p e s m args below meth c pc ls H locs hx hb hr hlk d h1 h2 => rew_L hx hb hr hlk d h1 h2) ?_
  intro p e s m args below meth c ls Qq hx hb hml hown hts hK hP hS hend hl
  have hl : lv_has ls 2 [(0, .ref (b 0)), (1, .int (nI (c_)))] := hl
  obtain ⟨hv1, hv2, hv3, hv4, hv5, hv6⟩ := id hv
  have hP : va_P D vwCl (mw κ b u v) s.heap := hP
  refine lv_aload_n hx hb dX1_coinWeight_0 rfl (lv_at hl 0 rfl) ?_
  refine lv_iconst (v := nI (0)) hx hb dX1_coinWeight_1 (by decide) ?_
  refine va_put (D := D) (ci := 1) (v := .int (nI (0))) (ty := .int) (C := RX1) (T := TX1) (N := 8) hx hb hts i_X1 tyX1 tyX1_ok nmX1 hown hK hP (mx_D hap κ _ _ _ _ _ _ _ _) hS 0 rfl rfl 0 (by decide) (hts _ q_f_X1_19) (fun _ h9 => h9) rfl (by decide +kernel) rfl rfl (Nat.le_of_ble_eq_true rfl) dX1_coinWeight_2 (fun H locs hP _ hS => ?_)
  have hP : va_P D vwCl (mw κ b 0 v) H := hP
  refine lv_aload_n hx hb dX1_coinWeight_5 rfl (lv_at hl 0 rfl) ?_
  refine lv_iload_n hx hb dX1_coinWeight_6 rfl (lv_at hl 1 rfl) ?_
  refine rd_V (rest := []) ⟨hx, hb, hml, hown, hts⟩ (c_X1_isCoin l D κ b 0 v hv (nI (c_))) g_X1_80 n_X1_isCoin ⟨Nat.le_of_ble_eq_true rfl, Nat.le_of_ble_eq_true rfl⟩ hK hP rfl rfl rfl hl.1 rfl (Nat.le_of_ble_eq_true rfl) dX1_coinWeight_7 ⟨Nat.zero_le _, Nat.zero_le _⟩ ?_
  refine nv_topi (congrArg bI (show (ix_ (nI (c_)) (vs_c v) : Bool) = true from by exact ix_nI (j := c_) (by omega) (by omega))) ?_
  refine bv_if_eq (tgt := 21) hx hb dX1_coinWeight_10 (by decide) (fun z => absurd z (by simp)) (fun c_10 => ?_)
  refine lv_aload_n hx hb dX1_coinWeight_13 rfl (lv_at hl 0 rfl) ?_
  refine lv_iload_n hx hb dX1_coinWeight_14 rfl (lv_at hl 1 rfl) ?_
  refine rd_V (rest := []) ⟨hx, hb, hml, hown, hts⟩ (c_X1_here l D κ b 0 v hv (c_) (by omega)) g_X1_106 n_X1_here ⟨Nat.le_of_ble_eq_true rfl, Nat.le_of_ble_eq_true rfl⟩ hK hP rfl rfl rfl hl.1 rfl (Nat.le_of_ble_eq_true rfl) dX1_coinWeight_15 ⟨Nat.zero_le _, Nat.zero_le _⟩ ?_
  refine lv_goto (tgt := 27) hx hb dX1_coinWeight_18 (by decide) ?_
  exact hend _ _ _ _ dX1_coinWeight_27 hP hS
set_option maxHeartbeats 4000000 in
set_option maxRecDepth 100000 in
theorem c_X1_schoolWeight_x1 (l : Launch) (D : va_G) (κ : Nat → ClassId) (b : Nat → Nat) (u : Nat) (v : VS) (hv : ok_v v) (hap : ap_ b 4) (x : Int32) (hx0 : ix_ x (vs_n v) = false) : Wr l yX1_schoolWeight cX1_schoolWeight 2 (some .long) 4 93 (Pw D (kt_ κ) (mw κ b u v) [.ref (b 0), .int (x)]) D (mw κ b 1 v) (ma_ b) (some (.long (lN (0)))) := by
  refine wr_intro (own := RX1) (by decide +kernel) rfl (Nat.le_of_ble_eq_true rfl) (fun p e s m args below meth c pc ls H locs hx hb hr hlk d h1 h2 => rew_L hx hb hr hlk d h1 h2) ?_
  intro p e s m args below meth c ls Qq hx hb hml hown hts hK hP hS hend hl
  have hl : lv_has ls 2 [(0, .ref (b 0)), (1, .int (x))] := hl
  obtain ⟨hv1, hv2, hv3, hv4, hv5, hv6⟩ := id hv
  have hP : va_P D vwCl (mw κ b u v) s.heap := hP
  refine lv_aload_n hx hb dX1_schoolWeight_0 rfl (lv_at hl 0 rfl) ?_
  refine lv_iconst (v := nI (0)) hx hb dX1_schoolWeight_1 (by decide) ?_
  refine va_put (D := D) (ci := 1) (v := .int (nI (0))) (ty := .int) (C := RX1) (T := TX1) (N := 8) hx hb hts i_X1 tyX1 tyX1_ok nmX1 hown hK hP (mx_D hap κ _ _ _ _ _ _ _ _) hS 0 rfl rfl 0 (by decide) (hts _ q_f_X1_19) (fun _ h9 => h9) rfl (by decide +kernel) rfl rfl (Nat.le_of_ble_eq_true rfl) dX1_schoolWeight_2 (fun H locs hP _ hS => ?_)
  have hP : va_P D vwCl (mw κ b 0 v) H := hP
  refine lv_aload_n hx hb dX1_schoolWeight_5 rfl (lv_at hl 0 rfl) ?_
  refine lv_iload_n hx hb dX1_schoolWeight_6 rfl (lv_at hl 1 rfl) ?_
  refine rd_V (rest := []) ⟨hx, hb, hml, hown, hts⟩ (c_X1_isSchool l D κ b 0 v hv (x)) g_X1_76 n_X1_isSchool ⟨Nat.le_of_ble_eq_true rfl, Nat.le_of_ble_eq_true rfl⟩ hK hP rfl rfl rfl hl.1 rfl (Nat.le_of_ble_eq_true rfl) dX1_schoolWeight_7 ⟨Nat.zero_le _, Nat.zero_le _⟩ ?_
  refine bv_if_eq (tgt := 21) hx hb dX1_schoolWeight_10 (by decide) (fun c_10 => ?_) (fun z => absurd z (by simp [hx0]))
  refine lv_aload_n hx hb dX1_schoolWeight_21 rfl (lv_at hl 0 rfl) ?_
  refine lv_iconst (v := nI (1)) hx hb dX1_schoolWeight_22 (by decide) ?_
  refine wr_V (rest := []) ⟨hx, hb, hml, hown, hts⟩ (c_X1_fail_ok l D κ b 0 v hv hap (1) (by omega)) g_X1_73 n_X1_fail ⟨Nat.le_of_ble_eq_true rfl, Nat.le_of_ble_eq_true rfl⟩ hK hP rfl rfl rfl hl.1 rfl (Nat.le_of_ble_eq_true rfl) dX1_schoolWeight_23 ⟨Nat.zero_le _, Nat.zero_le _⟩ hS (fun _ h => h) (fun H locs hP hS _ _ => ?_)
  have hP : va_P D vwCl (mw κ b 1 v) H := hP
  refine nv_i2l hx hb dX1_schoolWeight_26 (by omega) ?_
  exact hend _ _ _ _ dX1_schoolWeight_27 hP hS
set_option maxHeartbeats 4000000 in
set_option maxRecDepth 100000 in
theorem c_X1_schoolWeight_ok (l : Launch) (D : va_G) (κ : Nat → ClassId) (b : Nat → Nat) (u : Nat) (v : VS) (hv : ok_v v) (hap : ap_ b 4) (s_ : Nat) (hj : s_ < vs_n v) : Wr l yX1_schoolWeight cX1_schoolWeight 2 (some .long) 4 93 (Pw D (kt_ κ) (mw κ b u v) [.ref (b 0), .int (nI (s_))]) D (mw κ b 0 v) (ma_ b) (some (.long (lN (sc_ v s_ (hh_ v) (tt_ v))))) := by
  refine wr_intro (own := RX1) (by decide +kernel) rfl (Nat.le_of_ble_eq_true rfl) (fun p e s m args below meth c pc ls H locs hx hb hr hlk d h1 h2 => rew_L hx hb hr hlk d h1 h2) ?_
  intro p e s m args below meth c ls Qq hx hb hml hown hts hK hP hS hend hl
  have hl : lv_has ls 2 [(0, .ref (b 0)), (1, .int (nI (s_)))] := hl
  obtain ⟨hv1, hv2, hv3, hv4, hv5, hv6⟩ := id hv
  have hP : va_P D vwCl (mw κ b u v) s.heap := hP
  refine lv_aload_n hx hb dX1_schoolWeight_0 rfl (lv_at hl 0 rfl) ?_
  refine lv_iconst (v := nI (0)) hx hb dX1_schoolWeight_1 (by decide) ?_
  refine va_put (D := D) (ci := 1) (v := .int (nI (0))) (ty := .int) (C := RX1) (T := TX1) (N := 8) hx hb hts i_X1 tyX1 tyX1_ok nmX1 hown hK hP (mx_D hap κ _ _ _ _ _ _ _ _) hS 0 rfl rfl 0 (by decide) (hts _ q_f_X1_19) (fun _ h9 => h9) rfl (by decide +kernel) rfl rfl (Nat.le_of_ble_eq_true rfl) dX1_schoolWeight_2 (fun H locs hP _ hS => ?_)
  have hP : va_P D vwCl (mw κ b 0 v) H := hP
  refine lv_aload_n hx hb dX1_schoolWeight_5 rfl (lv_at hl 0 rfl) ?_
  refine lv_iload_n hx hb dX1_schoolWeight_6 rfl (lv_at hl 1 rfl) ?_
  refine rd_V (rest := []) ⟨hx, hb, hml, hown, hts⟩ (c_X1_isSchool l D κ b 0 v hv (nI (s_))) g_X1_76 n_X1_isSchool ⟨Nat.le_of_ble_eq_true rfl, Nat.le_of_ble_eq_true rfl⟩ hK hP rfl rfl rfl hl.1 rfl (Nat.le_of_ble_eq_true rfl) dX1_schoolWeight_7 ⟨Nat.zero_le _, Nat.zero_le _⟩ ?_
  refine nv_topi (congrArg bI (show (ix_ (nI (s_)) (vs_n v) : Bool) = true from by exact ix_nI (j := s_) (by omega) (by omega))) ?_
  refine bv_if_eq (tgt := 21) hx hb dX1_schoolWeight_10 (by decide) (fun z => absurd z (by simp)) (fun c_10 => ?_)
  refine lv_aload_n hx hb dX1_schoolWeight_13 rfl (lv_at hl 0 rfl) ?_
  refine lv_iload_n hx hb dX1_schoolWeight_14 rfl (lv_at hl 1 rfl) ?_
  refine rd_V (rest := []) ⟨hx, hb, hml, hown, hts⟩ (c_X1_schoolHere l D κ b 0 v hv (s_) (by omega)) g_X1_110 n_X1_schoolHere ⟨Nat.le_of_ble_eq_true rfl, Nat.le_of_ble_eq_true rfl⟩ hK hP rfl rfl rfl hl.1 rfl (Nat.le_of_ble_eq_true rfl) dX1_schoolWeight_15 ⟨Nat.zero_le _, Nat.zero_le _⟩ ?_
  refine lv_goto (tgt := 27) hx hb dX1_schoolWeight_18 (by decide) ?_
  exact hend _ _ _ _ dX1_schoolWeight_27 hP hS
set_option maxHeartbeats 4000000 in
set_option maxRecDepth 100000 in
theorem c_X1_surpriseOf_x1 (l : Launch) (D : va_G) (κ : Nat → ClassId) (b : Nat → Nat) (u : Nat) (v : VS) (hv : ok_v v) (hap : ap_ b 4) (x : Int32) (hx0 : ix_ x (vs_t v) = false) : Wr l yX1_surpriseOf cX1_surpriseOf 2 (some .int) 7 168 (Pw D (kt_ κ) (mw κ b u v) [.ref (b 0), .int (x)]) D (mw κ b 1 v) (ma_ b) (some (.int (nI (0)))) := by
  refine wr_intro (own := RX1) (by decide +kernel) rfl (Nat.le_of_ble_eq_true rfl) (fun p e s m args below meth c pc ls H locs hx hb hr hlk d h1 h2 => rew_I hx hb hr hlk d h1 h2) ?_
  intro p e s m args below meth c ls Qq hx hb hml hown hts hK hP hS hend hl
  have hl : lv_has ls 2 [(0, .ref (b 0)), (1, .int (x))] := hl
  obtain ⟨hv1, hv2, hv3, hv4, hv5, hv6⟩ := id hv
  have hP : va_P D vwCl (mw κ b u v) s.heap := hP
  refine lv_aload_n hx hb dX1_surpriseOf_0 rfl (lv_at hl 0 rfl) ?_
  refine lv_iconst (v := nI (0)) hx hb dX1_surpriseOf_1 (by decide) ?_
  refine va_put (D := D) (ci := 1) (v := .int (nI (0))) (ty := .int) (C := RX1) (T := TX1) (N := 8) hx hb hts i_X1 tyX1 tyX1_ok nmX1 hown hK hP (mx_D hap κ _ _ _ _ _ _ _ _) hS 0 rfl rfl 0 (by decide) (hts _ q_f_X1_19) (fun _ h9 => h9) rfl (by decide +kernel) rfl rfl (Nat.le_of_ble_eq_true rfl) dX1_surpriseOf_2 (fun H locs hP _ hS => ?_)
  have hP : va_P D vwCl (mw κ b 0 v) H := hP
  refine lv_aload_n hx hb dX1_surpriseOf_5 rfl (lv_at hl 0 rfl) ?_
  refine lv_iload_n hx hb dX1_surpriseOf_6 rfl (lv_at hl 1 rfl) ?_
  refine rd_V (rest := []) ⟨hx, hb, hml, hown, hts⟩ (c_X1_isToss l D κ b 0 v hv (x)) g_X1_94 n_X1_isToss ⟨Nat.le_of_ble_eq_true rfl, Nat.le_of_ble_eq_true rfl⟩ hK hP rfl rfl rfl hl.1 rfl (Nat.le_of_ble_eq_true rfl) dX1_surpriseOf_7 ⟨Nat.zero_le _, Nat.zero_le _⟩ ?_
  refine bv_if_eq (tgt := 21) hx hb dX1_surpriseOf_10 (by decide) (fun c_10 => ?_) (fun z => absurd z (by simp [hx0]))
  refine lv_aload_n hx hb dX1_surpriseOf_21 rfl (lv_at hl 0 rfl) ?_
  refine lv_iconst (v := nI (1)) hx hb dX1_surpriseOf_22 (by decide) ?_
  refine wr_V (rest := []) ⟨hx, hb, hml, hown, hts⟩ (c_X1_fail_ok l D κ b 0 v hv hap (1) (by omega)) g_X1_73 n_X1_fail ⟨Nat.le_of_ble_eq_true rfl, Nat.le_of_ble_eq_true rfl⟩ hK hP rfl rfl rfl hl.1 rfl (Nat.le_of_ble_eq_true rfl) dX1_surpriseOf_23 ⟨Nat.zero_le _, Nat.zero_le _⟩ hS (fun _ h => h) (fun H locs hP hS _ _ => ?_)
  have hP : va_P D vwCl (mw κ b 1 v) H := hP
  exact hend _ _ _ _ dX1_surpriseOf_26 hP hS
set_option maxHeartbeats 4000000 in
set_option maxRecDepth 100000 in
theorem c_X1_surpriseOf_ok (l : Launch) (D : va_G) (κ : Nat → ClassId) (b : Nat → Nat) (u : Nat) (v : VS) (hv : ok_v v) (hap : ap_ b 4) (t_ : Nat) (hj : t_ < vs_t v) (hp : 0 < ch_ v (vs_th v t_) (hd_ (vs_th v) t_) (t_ - hd_ (vs_th v) t_)) : Wr l yX1_surpriseOf cX1_surpriseOf 2 (some .int) 7 168 (Pw D (kt_ κ) (mw κ b u v) [.ref (b 0), .int (nI (t_))]) D (mw κ b 0 v) (ma_ b) (some (.int (nI (sa_ v t_)))) := by
  refine wr_intro (own := RX1) (by decide +kernel) rfl (Nat.le_of_ble_eq_true rfl) (fun p e s m args below meth c pc ls H locs hx hb hr hlk d h1 h2 => rew_I hx hb hr hlk d h1 h2) ?_
  intro p e s m args below meth c ls Qq hx hb hml hown hts hK hP hS hend hl
  have hl : lv_has ls 2 [(0, .ref (b 0)), (1, .int (nI (t_)))] := hl
  obtain ⟨hv1, hv2, hv3, hv4, hv5, hv6⟩ := id hv
  have hP : va_P D vwCl (mw κ b u v) s.heap := hP
  refine lv_aload_n hx hb dX1_surpriseOf_0 rfl (lv_at hl 0 rfl) ?_
  refine lv_iconst (v := nI (0)) hx hb dX1_surpriseOf_1 (by decide) ?_
  refine va_put (D := D) (ci := 1) (v := .int (nI (0))) (ty := .int) (C := RX1) (T := TX1) (N := 8) hx hb hts i_X1 tyX1 tyX1_ok nmX1 hown hK hP (mx_D hap κ _ _ _ _ _ _ _ _) hS 0 rfl rfl 0 (by decide) (hts _ q_f_X1_19) (fun _ h9 => h9) rfl (by decide +kernel) rfl rfl (Nat.le_of_ble_eq_true rfl) dX1_surpriseOf_2 (fun H locs hP _ hS => ?_)
  have hP : va_P D vwCl (mw κ b 0 v) H := hP
  refine lv_aload_n hx hb dX1_surpriseOf_5 rfl (lv_at hl 0 rfl) ?_
  refine lv_iload_n hx hb dX1_surpriseOf_6 rfl (lv_at hl 1 rfl) ?_
  refine rd_V (rest := []) ⟨hx, hb, hml, hown, hts⟩ (c_X1_isToss l D κ b 0 v hv (nI (t_))) g_X1_94 n_X1_isToss ⟨Nat.le_of_ble_eq_true rfl, Nat.le_of_ble_eq_true rfl⟩ hK hP rfl rfl rfl hl.1 rfl (Nat.le_of_ble_eq_true rfl) dX1_surpriseOf_7 ⟨Nat.zero_le _, Nat.zero_le _⟩ ?_
  refine nv_topi (congrArg bI (show (ix_ (nI (t_)) (vs_t v) : Bool) = true from by exact ix_nI (j := t_) (by omega) (by omega))) ?_
  refine bv_if_eq (tgt := 21) hx hb dX1_surpriseOf_10 (by decide) (fun z => absurd z (by simp)) (fun c_10 => ?_)
  refine lv_aload_n hx hb dX1_surpriseOf_13 rfl (lv_at hl 0 rfl) ?_
  refine lv_iload_n hx hb dX1_surpriseOf_14 rfl (lv_at hl 1 rfl) ?_
  refine rd_V (rest := []) ⟨hx, hb, hml, hown, hts⟩ (c_X1_surprise_ l D κ b 0 v hv (t_) (by omega) (hp)) g_X1_128 n_X1_surprise_ ⟨Nat.le_of_ble_eq_true rfl, Nat.le_of_ble_eq_true rfl⟩ hK hP rfl rfl rfl hl.1 rfl (Nat.le_of_ble_eq_true rfl) dX1_surpriseOf_15 ⟨Nat.zero_le _, Nat.zero_le _⟩ ?_
  refine lv_goto (tgt := 26) hx hb dX1_surpriseOf_18 (by decide) ?_
  exact hend _ _ _ _ dX1_surpriseOf_26 hP hS
set_option maxHeartbeats 4000000 in
set_option maxRecDepth 100000 in
theorem c_X1_tossesToLead_x1 (l : Launch) (D : va_G) (κ : Nat → ClassId) (b : Nat → Nat) (u : Nat) (v : VS) (hv : ok_v v) (hap : ap_ b 4) (x : Int32) (hx0 : ix_ x (vs_c v) = false) : Wr l yX1_tossesToLead cX1_tossesToLead 2 (some .int) 6 141 (Pw D (kt_ κ) (mw κ b u v) [.ref (b 0), .int (x)]) D (mw κ b 1 v) (ma_ b) (some (.int (nI (0)))) := by
  refine wr_intro (own := RX1) (by decide +kernel) rfl (Nat.le_of_ble_eq_true rfl) (fun p e s m args below meth c pc ls H locs hx hb hr hlk d h1 h2 => rew_I hx hb hr hlk d h1 h2) ?_
  intro p e s m args below meth c ls Qq hx hb hml hown hts hK hP hS hend hl
  have hl : lv_has ls 2 [(0, .ref (b 0)), (1, .int (x))] := hl
  obtain ⟨hv1, hv2, hv3, hv4, hv5, hv6⟩ := id hv
  have hP : va_P D vwCl (mw κ b u v) s.heap := hP
  refine lv_aload_n hx hb dX1_tossesToLead_0 rfl (lv_at hl 0 rfl) ?_
  refine lv_iconst (v := nI (0)) hx hb dX1_tossesToLead_1 (by decide) ?_
  refine va_put (D := D) (ci := 1) (v := .int (nI (0))) (ty := .int) (C := RX1) (T := TX1) (N := 8) hx hb hts i_X1 tyX1 tyX1_ok nmX1 hown hK hP (mx_D hap κ _ _ _ _ _ _ _ _) hS 0 rfl rfl 0 (by decide) (hts _ q_f_X1_19) (fun _ h9 => h9) rfl (by decide +kernel) rfl rfl (Nat.le_of_ble_eq_true rfl) dX1_tossesToLead_2 (fun H locs hP _ hS => ?_)
  have hP : va_P D vwCl (mw κ b 0 v) H := hP
  refine lv_aload_n hx hb dX1_tossesToLead_5 rfl (lv_at hl 0 rfl) ?_
  refine lv_iload_n hx hb dX1_tossesToLead_6 rfl (lv_at hl 1 rfl) ?_
  refine rd_V (rest := []) ⟨hx, hb, hml, hown, hts⟩ (c_X1_isCoin l D κ b 0 v hv (x)) g_X1_80 n_X1_isCoin ⟨Nat.le_of_ble_eq_true rfl, Nat.le_of_ble_eq_true rfl⟩ hK hP rfl rfl rfl hl.1 rfl (Nat.le_of_ble_eq_true rfl) dX1_tossesToLead_7 ⟨Nat.zero_le _, Nat.zero_le _⟩ ?_
  refine bv_if_eq (tgt := 21) hx hb dX1_tossesToLead_10 (by decide) (fun c_10 => ?_) (fun z => absurd z (by simp [hx0]))
  refine lv_aload_n hx hb dX1_tossesToLead_21 rfl (lv_at hl 0 rfl) ?_
  refine lv_iconst (v := nI (1)) hx hb dX1_tossesToLead_22 (by decide) ?_
  refine wr_V (rest := []) ⟨hx, hb, hml, hown, hts⟩ (c_X1_fail_ok l D κ b 0 v hv hap (1) (by omega)) g_X1_73 n_X1_fail ⟨Nat.le_of_ble_eq_true rfl, Nat.le_of_ble_eq_true rfl⟩ hK hP rfl rfl rfl hl.1 rfl (Nat.le_of_ble_eq_true rfl) dX1_tossesToLead_23 ⟨Nat.zero_le _, Nat.zero_le _⟩ hS (fun _ h => h) (fun H locs hP hS _ _ => ?_)
  have hP : va_P D vwCl (mw κ b 1 v) H := hP
  exact hend _ _ _ _ dX1_tossesToLead_26 hP hS
set_option maxHeartbeats 4000000 in
set_option maxRecDepth 100000 in
theorem c_X1_tossesToLead_ok (l : Launch) (D : va_G) (κ : Nat → ClassId) (b : Nat → Nat) (u : Nat) (v : VS) (hv : ok_v v) (hap : ap_ b 4) (c_ : Nat) (hj : c_ < vs_c v) : Wr l yX1_tossesToLead cX1_tossesToLead 2 (some .int) 6 141 (Pw D (kt_ κ) (mw κ b u v) [.ref (b 0), .int (nI (c_))]) D (mw κ b 0 v) (ma_ b) (some (.int (tl_ v c_))) := by
  refine wr_intro (own := RX1) (by decide +kernel) rfl (Nat.le_of_ble_eq_true rfl) (fun p e s m args below meth c pc ls H locs hx hb hr hlk d h1 h2 => rew_I hx hb hr hlk d h1 h2) ?_
  intro p e s m args below meth c ls Qq hx hb hml hown hts hK hP hS hend hl
  have hl : lv_has ls 2 [(0, .ref (b 0)), (1, .int (nI (c_)))] := hl
  obtain ⟨hv1, hv2, hv3, hv4, hv5, hv6⟩ := id hv
  have hP : va_P D vwCl (mw κ b u v) s.heap := hP
  refine lv_aload_n hx hb dX1_tossesToLead_0 rfl (lv_at hl 0 rfl) ?_
  refine lv_iconst (v := nI (0)) hx hb dX1_tossesToLead_1 (by decide) ?_
  refine va_put (D := D) (ci := 1) (v := .int (nI (0))) (ty := .int) (C := RX1) (T := TX1) (N := 8) hx hb hts i_X1 tyX1 tyX1_ok nmX1 hown hK hP (mx_D hap κ _ _ _ _ _ _ _ _) hS 0 rfl rfl 0 (by decide) (hts _ q_f_X1_19) (fun _ h9 => h9) rfl (by decide +kernel) rfl rfl (Nat.le_of_ble_eq_true rfl) dX1_tossesToLead_2 (fun H locs hP _ hS => ?_)
  have hP : va_P D vwCl (mw κ b 0 v) H := hP
  refine lv_aload_n hx hb dX1_tossesToLead_5 rfl (lv_at hl 0 rfl) ?_
  refine lv_iload_n hx hb dX1_tossesToLead_6 rfl (lv_at hl 1 rfl) ?_
  refine rd_V (rest := []) ⟨hx, hb, hml, hown, hts⟩ (c_X1_isCoin l D κ b 0 v hv (nI (c_))) g_X1_80 n_X1_isCoin ⟨Nat.le_of_ble_eq_true rfl, Nat.le_of_ble_eq_true rfl⟩ hK hP rfl rfl rfl hl.1 rfl (Nat.le_of_ble_eq_true rfl) dX1_tossesToLead_7 ⟨Nat.zero_le _, Nat.zero_le _⟩ ?_
  refine nv_topi (congrArg bI (show (ix_ (nI (c_)) (vs_c v) : Bool) = true from by exact ix_nI (j := c_) (by omega) (by omega))) ?_
  refine bv_if_eq (tgt := 21) hx hb dX1_tossesToLead_10 (by decide) (fun z => absurd z (by simp)) (fun c_10 => ?_)
  refine lv_aload_n hx hb dX1_tossesToLead_13 rfl (lv_at hl 0 rfl) ?_
  refine lv_iload_n hx hb dX1_tossesToLead_14 rfl (lv_at hl 1 rfl) ?_
  refine rd_V (rest := []) ⟨hx, hb, hml, hown, hts⟩ (c_X1_toLead l D κ b 0 v hv (c_) (by omega)) g_X1_136 n_X1_toLead ⟨Nat.le_of_ble_eq_true rfl, Nat.le_of_ble_eq_true rfl⟩ hK hP rfl rfl rfl hl.1 rfl (Nat.le_of_ble_eq_true rfl) dX1_tossesToLead_15 ⟨Nat.zero_le _, Nat.zero_le _⟩ ?_
  refine lv_goto (tgt := 26) hx hb dX1_tossesToLead_18 (by decide) ?_
  exact hend _ _ _ _ dX1_tossesToLead_26 hP hS
set_option maxHeartbeats 4000000 in
set_option maxRecDepth 100000 in
theorem c_X1_shareOf_x1 (l : Launch) (D : va_G) (κ : Nat → ClassId) (b : Nat → Nat) (u : Nat) (v : VS) (hv : ok_v v) (hap : ap_ b 4) (x : Int32) (y : Int32) (hx0 : ix_ x (vs_n v) = false) : Wr l yX1_shareOf cX1_shareOf 3 (some .int) 2 43 (Pw D (kt_ κ) (mw κ b u v) [.ref (b 0), .int (x), .int (y)]) D (mw κ b 1 v) (ma_ b) (some (.int (nI (0)))) := by
  refine wr_intro (own := RX1) (by decide +kernel) rfl (Nat.le_of_ble_eq_true rfl) (fun p e s m args below meth c pc ls H locs hx hb hr hlk d h1 h2 => rew_I hx hb hr hlk d h1 h2) ?_
  intro p e s m args below meth c ls Qq hx hb hml hown hts hK hP hS hend hl
  have hl : lv_has ls 3 [(0, .ref (b 0)), (1, .int (x)), (2, .int (y))] := hl
  obtain ⟨hv1, hv2, hv3, hv4, hv5, hv6⟩ := id hv
  have hP : va_P D vwCl (mw κ b u v) s.heap := hP
  refine lv_aload_n hx hb dX1_shareOf_0 rfl (lv_at hl 0 rfl) ?_
  refine lv_iconst (v := nI (0)) hx hb dX1_shareOf_1 (by decide) ?_
  refine va_put (D := D) (ci := 1) (v := .int (nI (0))) (ty := .int) (C := RX1) (T := TX1) (N := 8) hx hb hts i_X1 tyX1 tyX1_ok nmX1 hown hK hP (mx_D hap κ _ _ _ _ _ _ _ _) hS 0 rfl rfl 0 (by decide) (hts _ q_f_X1_19) (fun _ h9 => h9) rfl (by decide +kernel) rfl rfl (Nat.le_of_ble_eq_true rfl) dX1_shareOf_2 (fun H locs hP _ hS => ?_)
  have hP : va_P D vwCl (mw κ b 0 v) H := hP
  refine lv_aload_n hx hb dX1_shareOf_5 rfl (lv_at hl 0 rfl) ?_
  refine lv_iload_n hx hb dX1_shareOf_6 rfl (lv_at hl 1 rfl) ?_
  refine rd_V (rest := []) ⟨hx, hb, hml, hown, hts⟩ (c_X1_isSchool l D κ b 0 v hv (x)) g_X1_76 n_X1_isSchool ⟨Nat.le_of_ble_eq_true rfl, Nat.le_of_ble_eq_true rfl⟩ hK hP rfl rfl rfl hl.1 rfl (Nat.le_of_ble_eq_true rfl) dX1_shareOf_7 ⟨Nat.zero_le _, Nat.zero_le _⟩ ?_
  refine bv_if_eq (tgt := 34) hx hb dX1_shareOf_10 (by decide) (fun c_10 => ?_) (fun z => absurd z (by simp [hx0]))
  refine lv_aload_n hx hb dX1_shareOf_34 rfl (lv_at hl 0 rfl) ?_
  refine lv_iconst (v := nI (1)) hx hb dX1_shareOf_35 (by decide) ?_
  refine wr_V (rest := []) ⟨hx, hb, hml, hown, hts⟩ (c_X1_fail_ok l D κ b 0 v hv hap (1) (by omega)) g_X1_73 n_X1_fail ⟨Nat.le_of_ble_eq_true rfl, Nat.le_of_ble_eq_true rfl⟩ hK hP rfl rfl rfl hl.1 rfl (Nat.le_of_ble_eq_true rfl) dX1_shareOf_36 ⟨Nat.zero_le _, Nat.zero_le _⟩ hS (fun _ h => h) (fun H locs hP hS _ _ => ?_)
  have hP : va_P D vwCl (mw κ b 1 v) H := hP
  exact hend _ _ _ _ dX1_shareOf_39 hP hS
set_option maxHeartbeats 4000000 in
set_option maxRecDepth 100000 in
theorem c_X1_shareOf_x2 (l : Launch) (D : va_G) (κ : Nat → ClassId) (b : Nat → Nat) (u : Nat) (v : VS) (hv : ok_v v) (hap : ap_ b 4) (s_ : Nat) (y : Int32) (hs : s_ < vs_n v) (hx0 : ix_ y (vs_c v) = false) : Wr l yX1_shareOf cX1_shareOf 3 (some .int) 2 43 (Pw D (kt_ κ) (mw κ b u v) [.ref (b 0), .int (nI (s_)), .int (y)]) D (mw κ b 1 v) (ma_ b) (some (.int (nI (0)))) := by
  refine wr_intro (own := RX1) (by decide +kernel) rfl (Nat.le_of_ble_eq_true rfl) (fun p e s m args below meth c pc ls H locs hx hb hr hlk d h1 h2 => rew_I hx hb hr hlk d h1 h2) ?_
  intro p e s m args below meth c ls Qq hx hb hml hown hts hK hP hS hend hl
  have hl : lv_has ls 3 [(0, .ref (b 0)), (1, .int (nI (s_))), (2, .int (y))] := hl
  obtain ⟨hv1, hv2, hv3, hv4, hv5, hv6⟩ := id hv
  have hP : va_P D vwCl (mw κ b u v) s.heap := hP
  refine lv_aload_n hx hb dX1_shareOf_0 rfl (lv_at hl 0 rfl) ?_
  refine lv_iconst (v := nI (0)) hx hb dX1_shareOf_1 (by decide) ?_
  refine va_put (D := D) (ci := 1) (v := .int (nI (0))) (ty := .int) (C := RX1) (T := TX1) (N := 8) hx hb hts i_X1 tyX1 tyX1_ok nmX1 hown hK hP (mx_D hap κ _ _ _ _ _ _ _ _) hS 0 rfl rfl 0 (by decide) (hts _ q_f_X1_19) (fun _ h9 => h9) rfl (by decide +kernel) rfl rfl (Nat.le_of_ble_eq_true rfl) dX1_shareOf_2 (fun H locs hP _ hS => ?_)
  have hP : va_P D vwCl (mw κ b 0 v) H := hP
  refine lv_aload_n hx hb dX1_shareOf_5 rfl (lv_at hl 0 rfl) ?_
  refine lv_iload_n hx hb dX1_shareOf_6 rfl (lv_at hl 1 rfl) ?_
  refine rd_V (rest := []) ⟨hx, hb, hml, hown, hts⟩ (c_X1_isSchool l D κ b 0 v hv (nI (s_))) g_X1_76 n_X1_isSchool ⟨Nat.le_of_ble_eq_true rfl, Nat.le_of_ble_eq_true rfl⟩ hK hP rfl rfl rfl hl.1 rfl (Nat.le_of_ble_eq_true rfl) dX1_shareOf_7 ⟨Nat.zero_le _, Nat.zero_le _⟩ ?_
  refine nv_topi (congrArg bI (show (ix_ (nI (s_)) (vs_n v) : Bool) = true from by exact ix_nI (j := s_) (by omega) (by omega))) ?_
  refine bv_if_eq (tgt := 34) hx hb dX1_shareOf_10 (by decide) (fun z => absurd z (by simp)) (fun c_10 => ?_)
  refine lv_aload_n hx hb dX1_shareOf_13 rfl (lv_at hl 0 rfl) ?_
  refine lv_iload_n hx hb dX1_shareOf_14 rfl (lv_at hl 2 rfl) ?_
  refine rd_V (rest := []) ⟨hx, hb, hml, hown, hts⟩ (c_X1_isCoin l D κ b 0 v hv (y)) g_X1_80 n_X1_isCoin ⟨Nat.le_of_ble_eq_true rfl, Nat.le_of_ble_eq_true rfl⟩ hK hP rfl rfl rfl hl.1 rfl (Nat.le_of_ble_eq_true rfl) dX1_shareOf_15 ⟨Nat.zero_le _, Nat.zero_le _⟩ ?_
  refine bv_if_eq (tgt := 34) hx hb dX1_shareOf_18 (by decide) (fun c_18 => ?_) (fun z => absurd z (by simp [hx0]))
  refine lv_aload_n hx hb dX1_shareOf_34 rfl (lv_at hl 0 rfl) ?_
  refine lv_iconst (v := nI (1)) hx hb dX1_shareOf_35 (by decide) ?_
  refine wr_V (rest := []) ⟨hx, hb, hml, hown, hts⟩ (c_X1_fail_ok l D κ b 0 v hv hap (1) (by omega)) g_X1_73 n_X1_fail ⟨Nat.le_of_ble_eq_true rfl, Nat.le_of_ble_eq_true rfl⟩ hK hP rfl rfl rfl hl.1 rfl (Nat.le_of_ble_eq_true rfl) dX1_shareOf_36 ⟨Nat.zero_le _, Nat.zero_le _⟩ hS (fun _ h => h) (fun H locs hP hS _ _ => ?_)
  have hP : va_P D vwCl (mw κ b 1 v) H := hP
  exact hend _ _ _ _ dX1_shareOf_39 hP hS
set_option maxHeartbeats 4000000 in
set_option maxRecDepth 100000 in
theorem c_X1_shareOf_ok (l : Launch) (D : va_G) (κ : Nat → ClassId) (b : Nat → Nat) (u : Nat) (v : VS) (hv : ok_v v) (hap : ap_ b 4) (s_ : Nat) (c_ : Nat) (hs : s_ < vs_n v) (hc : c_ < vs_c v) : Wr l yX1_shareOf cX1_shareOf 3 (some .int) 2 43 (Pw D (kt_ κ) (mw κ b u v) [.ref (b 0), .int (nI (s_)), .int (nI (c_))]) D (mw κ b 0 v) (ma_ b) (some (.int (nI (vs_sh v s_ c_)))) := by
  refine wr_intro (own := RX1) (by decide +kernel) rfl (Nat.le_of_ble_eq_true rfl) (fun p e s m args below meth c pc ls H locs hx hb hr hlk d h1 h2 => rew_I hx hb hr hlk d h1 h2) ?_
  intro p e s m args below meth c ls Qq hx hb hml hown hts hK hP hS hend hl
  have hl : lv_has ls 3 [(0, .ref (b 0)), (1, .int (nI (s_))), (2, .int (nI (c_)))] := hl
  obtain ⟨hv1, hv2, hv3, hv4, hv5, hv6⟩ := id hv
  have hP : va_P D vwCl (mw κ b u v) s.heap := hP
  refine lv_aload_n hx hb dX1_shareOf_0 rfl (lv_at hl 0 rfl) ?_
  refine lv_iconst (v := nI (0)) hx hb dX1_shareOf_1 (by decide) ?_
  refine va_put (D := D) (ci := 1) (v := .int (nI (0))) (ty := .int) (C := RX1) (T := TX1) (N := 8) hx hb hts i_X1 tyX1 tyX1_ok nmX1 hown hK hP (mx_D hap κ _ _ _ _ _ _ _ _) hS 0 rfl rfl 0 (by decide) (hts _ q_f_X1_19) (fun _ h9 => h9) rfl (by decide +kernel) rfl rfl (Nat.le_of_ble_eq_true rfl) dX1_shareOf_2 (fun H locs hP _ hS => ?_)
  have hP : va_P D vwCl (mw κ b 0 v) H := hP
  refine lv_aload_n hx hb dX1_shareOf_5 rfl (lv_at hl 0 rfl) ?_
  refine lv_iload_n hx hb dX1_shareOf_6 rfl (lv_at hl 1 rfl) ?_
  refine rd_V (rest := []) ⟨hx, hb, hml, hown, hts⟩ (c_X1_isSchool l D κ b 0 v hv (nI (s_))) g_X1_76 n_X1_isSchool ⟨Nat.le_of_ble_eq_true rfl, Nat.le_of_ble_eq_true rfl⟩ hK hP rfl rfl rfl hl.1 rfl (Nat.le_of_ble_eq_true rfl) dX1_shareOf_7 ⟨Nat.zero_le _, Nat.zero_le _⟩ ?_
  refine nv_topi (congrArg bI (show (ix_ (nI (s_)) (vs_n v) : Bool) = true from by exact ix_nI (j := s_) (by omega) (by omega))) ?_
  refine bv_if_eq (tgt := 34) hx hb dX1_shareOf_10 (by decide) (fun z => absurd z (by simp)) (fun c_10 => ?_)
  refine lv_aload_n hx hb dX1_shareOf_13 rfl (lv_at hl 0 rfl) ?_
  refine lv_iload_n hx hb dX1_shareOf_14 rfl (lv_at hl 2 rfl) ?_
  refine rd_V (rest := []) ⟨hx, hb, hml, hown, hts⟩ (c_X1_isCoin l D κ b 0 v hv (nI (c_))) g_X1_80 n_X1_isCoin ⟨Nat.le_of_ble_eq_true rfl, Nat.le_of_ble_eq_true rfl⟩ hK hP rfl rfl rfl hl.1 rfl (Nat.le_of_ble_eq_true rfl) dX1_shareOf_15 ⟨Nat.zero_le _, Nat.zero_le _⟩ ?_
  refine nv_topi (congrArg bI (show (ix_ (nI (c_)) (vs_c v) : Bool) = true from by exact ix_nI (j := c_) (by omega) (by omega))) ?_
  refine bv_if_eq (tgt := 34) hx hb dX1_shareOf_18 (by decide) (fun z => absurd z (by simp)) (fun c_18 => ?_)
  refine lv_aload_n hx hb dX1_shareOf_21 rfl (lv_at hl 0 rfl) ?_
  refine va_get (D := D) (ci := 1) (v := .ref (b 3)) (C := RX1) (T := TX1) (N := 8) hx hb hts i_X1 hown hK hP 0 rfl rfl 7 (by decide) (hts _ q_f_X1_16) (fun _ h9 => h9) rfl dX1_shareOf_22 ?_
  refine lv_iconst (v := nI (4)) hx hb dX1_shareOf_25 (by decide) ?_
  refine lv_iload_n hx hb dX1_shareOf_26 rfl (lv_at hl 2 rfl) ?_
  refine nv_imul hx hb dX1_shareOf_27 rfl ?_
  refine lv_iload_n hx hb dX1_shareOf_28 rfl (lv_at hl 1 rfl) ?_
  refine nv_iadd hx hb dX1_shareOf_29 rfl ?_
  refine nv_iald hx hb hK hP 3 0 (n := 32) (v := nI (ms_ v ((4 * c_) + s_))) rfl rfl (by omega) (by decide) rfl dX1_shareOf_30 ?_
  refine lv_goto (tgt := 39) hx hb dX1_shareOf_31 (by decide) ?_
  refine nv_topi (congrArg nI (show (ms_ v ((4 * c_) + s_) : Nat) = vs_sh v s_ c_ from by exact ms_at hs hc (by omega))) ?_
  exact hend _ _ _ _ dX1_shareOf_39 hP hS
set_option maxHeartbeats 4000000 in
set_option maxRecDepth 100000 in
theorem c_X1_weightOf_x1 (l : Launch) (D : va_G) (κ : Nat → ClassId) (b : Nat → Nat) (u : Nat) (v : VS) (hv : ok_v v) (hap : ap_ b 4) (x : Int32) (y : Int32) (hx0 : ix_ x (vs_n v) = false) : Wr l yX1_weightOf cX1_weightOf 3 (some .long) 3 69 (Pw D (kt_ κ) (mw κ b u v) [.ref (b 0), .int (x), .int (y)]) D (mw κ b 1 v) (ma_ b) (some (.long (lN (0)))) := by
  refine wr_intro (own := RX1) (by decide +kernel) rfl (Nat.le_of_ble_eq_true rfl) (fun p e s m args below meth c pc ls H locs hx hb hr hlk d h1 h2 => rew_L hx hb hr hlk d h1 h2) ?_
  intro p e s m args below meth c ls Qq hx hb hml hown hts hK hP hS hend hl
  have hl : lv_has ls 3 [(0, .ref (b 0)), (1, .int (x)), (2, .int (y))] := hl
  obtain ⟨hv1, hv2, hv3, hv4, hv5, hv6⟩ := id hv
  have hP : va_P D vwCl (mw κ b u v) s.heap := hP
  refine lv_aload_n hx hb dX1_weightOf_0 rfl (lv_at hl 0 rfl) ?_
  refine lv_iconst (v := nI (0)) hx hb dX1_weightOf_1 (by decide) ?_
  refine va_put (D := D) (ci := 1) (v := .int (nI (0))) (ty := .int) (C := RX1) (T := TX1) (N := 8) hx hb hts i_X1 tyX1 tyX1_ok nmX1 hown hK hP (mx_D hap κ _ _ _ _ _ _ _ _) hS 0 rfl rfl 0 (by decide) (hts _ q_f_X1_19) (fun _ h9 => h9) rfl (by decide +kernel) rfl rfl (Nat.le_of_ble_eq_true rfl) dX1_weightOf_2 (fun H locs hP _ hS => ?_)
  have hP : va_P D vwCl (mw κ b 0 v) H := hP
  refine lv_aload_n hx hb dX1_weightOf_5 rfl (lv_at hl 0 rfl) ?_
  refine lv_iload_n hx hb dX1_weightOf_6 rfl (lv_at hl 1 rfl) ?_
  refine rd_V (rest := []) ⟨hx, hb, hml, hown, hts⟩ (c_X1_isSchool l D κ b 0 v hv (x)) g_X1_76 n_X1_isSchool ⟨Nat.le_of_ble_eq_true rfl, Nat.le_of_ble_eq_true rfl⟩ hK hP rfl rfl rfl hl.1 rfl (Nat.le_of_ble_eq_true rfl) dX1_weightOf_7 ⟨Nat.zero_le _, Nat.zero_le _⟩ ?_
  refine bv_if_eq (tgt := 30) hx hb dX1_weightOf_10 (by decide) (fun c_10 => ?_) (fun z => absurd z (by simp [hx0]))
  refine lv_aload_n hx hb dX1_weightOf_30 rfl (lv_at hl 0 rfl) ?_
  refine lv_iconst (v := nI (1)) hx hb dX1_weightOf_31 (by decide) ?_
  refine wr_V (rest := []) ⟨hx, hb, hml, hown, hts⟩ (c_X1_fail_ok l D κ b 0 v hv hap (1) (by omega)) g_X1_73 n_X1_fail ⟨Nat.le_of_ble_eq_true rfl, Nat.le_of_ble_eq_true rfl⟩ hK hP rfl rfl rfl hl.1 rfl (Nat.le_of_ble_eq_true rfl) dX1_weightOf_32 ⟨Nat.zero_le _, Nat.zero_le _⟩ hS (fun _ h => h) (fun H locs hP hS _ _ => ?_)
  have hP : va_P D vwCl (mw κ b 1 v) H := hP
  refine nv_i2l hx hb dX1_weightOf_35 (by omega) ?_
  exact hend _ _ _ _ dX1_weightOf_36 hP hS
set_option maxHeartbeats 4000000 in
set_option maxRecDepth 100000 in
theorem c_X1_weightOf_x2 (l : Launch) (D : va_G) (κ : Nat → ClassId) (b : Nat → Nat) (u : Nat) (v : VS) (hv : ok_v v) (hap : ap_ b 4) (s_ : Nat) (y : Int32) (hs : s_ < vs_n v) (hx0 : ix_ y (vs_c v) = false) : Wr l yX1_weightOf cX1_weightOf 3 (some .long) 3 69 (Pw D (kt_ κ) (mw κ b u v) [.ref (b 0), .int (nI (s_)), .int (y)]) D (mw κ b 1 v) (ma_ b) (some (.long (lN (0)))) := by
  refine wr_intro (own := RX1) (by decide +kernel) rfl (Nat.le_of_ble_eq_true rfl) (fun p e s m args below meth c pc ls H locs hx hb hr hlk d h1 h2 => rew_L hx hb hr hlk d h1 h2) ?_
  intro p e s m args below meth c ls Qq hx hb hml hown hts hK hP hS hend hl
  have hl : lv_has ls 3 [(0, .ref (b 0)), (1, .int (nI (s_))), (2, .int (y))] := hl
  obtain ⟨hv1, hv2, hv3, hv4, hv5, hv6⟩ := id hv
  have hP : va_P D vwCl (mw κ b u v) s.heap := hP
  refine lv_aload_n hx hb dX1_weightOf_0 rfl (lv_at hl 0 rfl) ?_
  refine lv_iconst (v := nI (0)) hx hb dX1_weightOf_1 (by decide) ?_
  refine va_put (D := D) (ci := 1) (v := .int (nI (0))) (ty := .int) (C := RX1) (T := TX1) (N := 8) hx hb hts i_X1 tyX1 tyX1_ok nmX1 hown hK hP (mx_D hap κ _ _ _ _ _ _ _ _) hS 0 rfl rfl 0 (by decide) (hts _ q_f_X1_19) (fun _ h9 => h9) rfl (by decide +kernel) rfl rfl (Nat.le_of_ble_eq_true rfl) dX1_weightOf_2 (fun H locs hP _ hS => ?_)
  have hP : va_P D vwCl (mw κ b 0 v) H := hP
  refine lv_aload_n hx hb dX1_weightOf_5 rfl (lv_at hl 0 rfl) ?_
  refine lv_iload_n hx hb dX1_weightOf_6 rfl (lv_at hl 1 rfl) ?_
  refine rd_V (rest := []) ⟨hx, hb, hml, hown, hts⟩ (c_X1_isSchool l D κ b 0 v hv (nI (s_))) g_X1_76 n_X1_isSchool ⟨Nat.le_of_ble_eq_true rfl, Nat.le_of_ble_eq_true rfl⟩ hK hP rfl rfl rfl hl.1 rfl (Nat.le_of_ble_eq_true rfl) dX1_weightOf_7 ⟨Nat.zero_le _, Nat.zero_le _⟩ ?_
  refine nv_topi (congrArg bI (show (ix_ (nI (s_)) (vs_n v) : Bool) = true from by exact ix_nI (j := s_) (by omega) (by omega))) ?_
  refine bv_if_eq (tgt := 30) hx hb dX1_weightOf_10 (by decide) (fun z => absurd z (by simp)) (fun c_10 => ?_)
  refine lv_aload_n hx hb dX1_weightOf_13 rfl (lv_at hl 0 rfl) ?_
  refine lv_iload_n hx hb dX1_weightOf_14 rfl (lv_at hl 2 rfl) ?_
  refine rd_V (rest := []) ⟨hx, hb, hml, hown, hts⟩ (c_X1_isCoin l D κ b 0 v hv (y)) g_X1_80 n_X1_isCoin ⟨Nat.le_of_ble_eq_true rfl, Nat.le_of_ble_eq_true rfl⟩ hK hP rfl rfl rfl hl.1 rfl (Nat.le_of_ble_eq_true rfl) dX1_weightOf_15 ⟨Nat.zero_le _, Nat.zero_le _⟩ ?_
  refine bv_if_eq (tgt := 30) hx hb dX1_weightOf_18 (by decide) (fun c_18 => ?_) (fun z => absurd z (by simp [hx0]))
  refine lv_aload_n hx hb dX1_weightOf_30 rfl (lv_at hl 0 rfl) ?_
  refine lv_iconst (v := nI (1)) hx hb dX1_weightOf_31 (by decide) ?_
  refine wr_V (rest := []) ⟨hx, hb, hml, hown, hts⟩ (c_X1_fail_ok l D κ b 0 v hv hap (1) (by omega)) g_X1_73 n_X1_fail ⟨Nat.le_of_ble_eq_true rfl, Nat.le_of_ble_eq_true rfl⟩ hK hP rfl rfl rfl hl.1 rfl (Nat.le_of_ble_eq_true rfl) dX1_weightOf_32 ⟨Nat.zero_le _, Nat.zero_le _⟩ hS (fun _ h => h) (fun H locs hP hS _ _ => ?_)
  have hP : va_P D vwCl (mw κ b 1 v) H := hP
  refine nv_i2l hx hb dX1_weightOf_35 (by omega) ?_
  exact hend _ _ _ _ dX1_weightOf_36 hP hS
set_option maxHeartbeats 4000000 in
set_option maxRecDepth 100000 in
theorem c_X1_weightOf_ok (l : Launch) (D : va_G) (κ : Nat → ClassId) (b : Nat → Nat) (u : Nat) (v : VS) (hv : ok_v v) (hap : ap_ b 4) (s_ : Nat) (c_ : Nat) (hs : s_ < vs_n v) (hc : c_ < vs_c v) : Wr l yX1_weightOf cX1_weightOf 3 (some .long) 3 69 (Pw D (kt_ κ) (mw κ b u v) [.ref (b 0), .int (nI (s_)), .int (nI (c_))]) D (mw κ b 0 v) (ma_ b) (some (.long (lN (pr_ v s_ c_ (hh_ v) (tt_ v))))) := by
  refine wr_intro (own := RX1) (by decide +kernel) rfl (Nat.le_of_ble_eq_true rfl) (fun p e s m args below meth c pc ls H locs hx hb hr hlk d h1 h2 => rew_L hx hb hr hlk d h1 h2) ?_
  intro p e s m args below meth c ls Qq hx hb hml hown hts hK hP hS hend hl
  have hl : lv_has ls 3 [(0, .ref (b 0)), (1, .int (nI (s_))), (2, .int (nI (c_)))] := hl
  obtain ⟨hv1, hv2, hv3, hv4, hv5, hv6⟩ := id hv
  have hP : va_P D vwCl (mw κ b u v) s.heap := hP
  refine lv_aload_n hx hb dX1_weightOf_0 rfl (lv_at hl 0 rfl) ?_
  refine lv_iconst (v := nI (0)) hx hb dX1_weightOf_1 (by decide) ?_
  refine va_put (D := D) (ci := 1) (v := .int (nI (0))) (ty := .int) (C := RX1) (T := TX1) (N := 8) hx hb hts i_X1 tyX1 tyX1_ok nmX1 hown hK hP (mx_D hap κ _ _ _ _ _ _ _ _) hS 0 rfl rfl 0 (by decide) (hts _ q_f_X1_19) (fun _ h9 => h9) rfl (by decide +kernel) rfl rfl (Nat.le_of_ble_eq_true rfl) dX1_weightOf_2 (fun H locs hP _ hS => ?_)
  have hP : va_P D vwCl (mw κ b 0 v) H := hP
  refine lv_aload_n hx hb dX1_weightOf_5 rfl (lv_at hl 0 rfl) ?_
  refine lv_iload_n hx hb dX1_weightOf_6 rfl (lv_at hl 1 rfl) ?_
  refine rd_V (rest := []) ⟨hx, hb, hml, hown, hts⟩ (c_X1_isSchool l D κ b 0 v hv (nI (s_))) g_X1_76 n_X1_isSchool ⟨Nat.le_of_ble_eq_true rfl, Nat.le_of_ble_eq_true rfl⟩ hK hP rfl rfl rfl hl.1 rfl (Nat.le_of_ble_eq_true rfl) dX1_weightOf_7 ⟨Nat.zero_le _, Nat.zero_le _⟩ ?_
  refine nv_topi (congrArg bI (show (ix_ (nI (s_)) (vs_n v) : Bool) = true from by exact ix_nI (j := s_) (by omega) (by omega))) ?_
  refine bv_if_eq (tgt := 30) hx hb dX1_weightOf_10 (by decide) (fun z => absurd z (by simp)) (fun c_10 => ?_)
  refine lv_aload_n hx hb dX1_weightOf_13 rfl (lv_at hl 0 rfl) ?_
  refine lv_iload_n hx hb dX1_weightOf_14 rfl (lv_at hl 2 rfl) ?_
  refine rd_V (rest := []) ⟨hx, hb, hml, hown, hts⟩ (c_X1_isCoin l D κ b 0 v hv (nI (c_))) g_X1_80 n_X1_isCoin ⟨Nat.le_of_ble_eq_true rfl, Nat.le_of_ble_eq_true rfl⟩ hK hP rfl rfl rfl hl.1 rfl (Nat.le_of_ble_eq_true rfl) dX1_weightOf_15 ⟨Nat.zero_le _, Nat.zero_le _⟩ ?_
  refine nv_topi (congrArg bI (show (ix_ (nI (c_)) (vs_c v) : Bool) = true from by exact ix_nI (j := c_) (by omega) (by omega))) ?_
  refine bv_if_eq (tgt := 30) hx hb dX1_weightOf_18 (by decide) (fun z => absurd z (by simp)) (fun c_18 => ?_)
  refine lv_aload_n hx hb dX1_weightOf_21 rfl (lv_at hl 0 rfl) ?_
  refine lv_iload_n hx hb dX1_weightOf_22 rfl (lv_at hl 1 rfl) ?_
  refine lv_iload_n hx hb dX1_weightOf_23 rfl (lv_at hl 2 rfl) ?_
  refine rd_V (rest := []) ⟨hx, hb, hml, hown, hts⟩ (c_X1_pair l D κ b 0 v hv (s_) (c_) (by omega) (by omega)) g_X1_103 n_X1_pair ⟨Nat.le_of_ble_eq_true rfl, Nat.le_of_ble_eq_true rfl⟩ hK hP rfl rfl rfl hl.1 rfl (Nat.le_of_ble_eq_true rfl) dX1_weightOf_24 ⟨Nat.zero_le _, Nat.zero_le _⟩ ?_
  refine lv_goto (tgt := 36) hx hb dX1_weightOf_27 (by decide) ?_
  exact hend _ _ _ _ dX1_weightOf_36 hP hS
set_option maxHeartbeats 4000000 in
set_option maxRecDepth 100000 in
theorem c_X1_isRuledOut_x1 (l : Launch) (D : va_G) (κ : Nat → ClassId) (b : Nat → Nat) (u : Nat) (v : VS) (hv : ok_v v) (hap : ap_ b 4) (x : Int32) (hx0 : ix_ x (vs_c v) = false) : Wr l yX1_isRuledOut cX1_isRuledOut 2 (some .boolean) 4 91 (Pw D (kt_ κ) (mw κ b u v) [.ref (b 0), .int (x)]) D (mw κ b 1 v) (ma_ b) (some (.int (bI (false)))) := by
  refine wr_intro (own := RX1) (by decide +kernel) rfl (Nat.le_of_ble_eq_true rfl) (fun p e s m args below meth c pc ls H locs hx hb hr hlk d h1 h2 => rew_Z hx hb hr hlk d h1 h2) ?_
  intro p e s m args below meth c ls Qq hx hb hml hown hts hK hP hS hend hl
  have hl : lv_has ls 2 [(0, .ref (b 0)), (1, .int (x))] := hl
  obtain ⟨hv1, hv2, hv3, hv4, hv5, hv6⟩ := id hv
  have hP : va_P D vwCl (mw κ b u v) s.heap := hP
  refine lv_aload_n hx hb dX1_isRuledOut_0 rfl (lv_at hl 0 rfl) ?_
  refine lv_aload_n hx hb dX1_isRuledOut_1 rfl (lv_at hl 0 rfl) ?_
  refine lv_iload_n hx hb dX1_isRuledOut_2 rfl (lv_at hl 1 rfl) ?_
  refine rd_V (rest := [.ref (b 0)]) ⟨hx, hb, hml, hown, hts⟩ (c_X1_isCoin l D κ b u v hv (x)) g_X1_80 n_X1_isCoin ⟨Nat.le_of_ble_eq_true rfl, Nat.le_of_ble_eq_true rfl⟩ hK hP rfl rfl rfl hl.1 rfl (Nat.le_of_ble_eq_true rfl) dX1_isRuledOut_3 ⟨Nat.zero_le _, Nat.zero_le _⟩ ?_
  refine bv_if_eq (tgt := 13) hx hb dX1_isRuledOut_6 (by decide) (fun c_6 => ?_) (fun z => absurd z (by simp [hx0]))
  refine lv_iconst (v := nI (1)) hx hb dX1_isRuledOut_13 (by decide) ?_
  refine va_put (D := D) (ci := 1) (v := .int (nI (1))) (ty := .int) (C := RX1) (T := TX1) (N := 8) hx hb hts i_X1 tyX1 tyX1_ok nmX1 hown hK hP (mx_D hap κ _ _ _ _ _ _ _ _) hS 0 rfl rfl 0 (by decide) (hts _ q_f_X1_19) (fun _ h9 => h9) rfl (by decide +kernel) rfl rfl (Nat.le_of_ble_eq_true rfl) dX1_isRuledOut_14 (fun H locs hP _ hS => ?_)
  have hP : va_P D vwCl (mw κ b 1 v) H := hP
  refine lv_aload_n hx hb dX1_isRuledOut_17 rfl (lv_at hl 0 rfl) ?_
  refine va_get (D := D) (ci := 1) (v := .int (nI (1))) (C := RX1) (T := TX1) (N := 8) hx hb hts i_X1 hown hK hP 0 rfl rfl 0 (by decide) (hts _ q_f_X1_19) (fun _ h9 => h9) rfl dX1_isRuledOut_18 ?_
  refine nv_if_ne (tgt := 38) hx hb dX1_isRuledOut_21 (by decide) (by omega) (fun c_21 => ?_) (fun z => absurd z (by omega))
  refine lv_iconst (v := nI (0)) hx hb dX1_isRuledOut_38 (by decide) ?_
  refine nv_topi (show (nI (0) : Int32) = bI (false) from by rfl) ?_
  exact hend _ _ _ _ dX1_isRuledOut_39 hP hS
set_option maxHeartbeats 4000000 in
set_option maxRecDepth 100000 in
theorem c_X1_isRuledOut_ok (l : Launch) (D : va_G) (κ : Nat → ClassId) (b : Nat → Nat) (u : Nat) (v : VS) (hv : ok_v v) (hap : ap_ b 4) (c_ : Nat) (hc : c_ < vs_c v) : Wr l yX1_isRuledOut cX1_isRuledOut 2 (some .boolean) 4 91 (Pw D (kt_ κ) (mw κ b u v) [.ref (b 0), .int (nI (c_))]) D (mw κ b 0 v) (ma_ b) (some (.int (bI (decide (wt_ v c_ (hh_ v) (tt_ v) = 0))))) := by
  refine wr_intro (own := RX1) (by decide +kernel) rfl (Nat.le_of_ble_eq_true rfl) (fun p e s m args below meth c pc ls H locs hx hb hr hlk d h1 h2 => rew_Z hx hb hr hlk d h1 h2) ?_
  intro p e s m args below meth c ls Qq hx hb hml hown hts hK hP hS hend hl
  have hl : lv_has ls 2 [(0, .ref (b 0)), (1, .int (nI (c_)))] := hl
  obtain ⟨hv1, hv2, hv3, hv4, hv5, hv6⟩ := id hv
  have hP : va_P D vwCl (mw κ b u v) s.heap := hP
  have hq1 := hh_le v
  have hq2 := hh_tt v
  have hb1 := wt_b hv c_ (a := hh_ v) (b := tt_ v) (by omega)
  refine lv_aload_n hx hb dX1_isRuledOut_0 rfl (lv_at hl 0 rfl) ?_
  refine lv_aload_n hx hb dX1_isRuledOut_1 rfl (lv_at hl 0 rfl) ?_
  refine lv_iload_n hx hb dX1_isRuledOut_2 rfl (lv_at hl 1 rfl) ?_
  refine rd_V (rest := [.ref (b 0)]) ⟨hx, hb, hml, hown, hts⟩ (c_X1_isCoin l D κ b u v hv (nI (c_))) g_X1_80 n_X1_isCoin ⟨Nat.le_of_ble_eq_true rfl, Nat.le_of_ble_eq_true rfl⟩ hK hP rfl rfl rfl hl.1 rfl (Nat.le_of_ble_eq_true rfl) dX1_isRuledOut_3 ⟨Nat.zero_le _, Nat.zero_le _⟩ ?_
  refine nv_topi (congrArg bI (show (ix_ (nI (c_)) (vs_c v) : Bool) = true from by exact ix_nI (j := c_) (by omega) (by omega))) ?_
  refine bv_if_eq (tgt := 13) hx hb dX1_isRuledOut_6 (by decide) (fun z => absurd z (by simp)) (fun c_6 => ?_)
  refine lv_iconst (v := nI (0)) hx hb dX1_isRuledOut_9 (by decide) ?_
  refine lv_goto (tgt := 14) hx hb dX1_isRuledOut_10 (by decide) ?_
  refine va_put (D := D) (ci := 1) (v := .int (nI (0))) (ty := .int) (C := RX1) (T := TX1) (N := 8) hx hb hts i_X1 tyX1 tyX1_ok nmX1 hown hK hP (mx_D hap κ _ _ _ _ _ _ _ _) hS 0 rfl rfl 0 (by decide) (hts _ q_f_X1_19) (fun _ h9 => h9) rfl (by decide +kernel) rfl rfl (Nat.le_of_ble_eq_true rfl) dX1_isRuledOut_14 (fun H locs hP _ hS => ?_)
  have hP : va_P D vwCl (mw κ b 0 v) H := hP
  refine lv_aload_n hx hb dX1_isRuledOut_17 rfl (lv_at hl 0 rfl) ?_
  refine va_get (D := D) (ci := 1) (v := .int (nI (0))) (C := RX1) (T := TX1) (N := 8) hx hb hts i_X1 hown hK hP 0 rfl rfl 0 (by decide) (hts _ q_f_X1_19) (fun _ h9 => h9) rfl dX1_isRuledOut_18 ?_
  refine nv_if_ne (tgt := 38) hx hb dX1_isRuledOut_21 (by decide) (by omega) (fun z => absurd z (by omega)) (fun c_21 => ?_)
  refine lv_aload_n hx hb dX1_isRuledOut_24 rfl (lv_at hl 0 rfl) ?_
  refine lv_iload_n hx hb dX1_isRuledOut_25 rfl (lv_at hl 1 rfl) ?_
  refine rd_V (rest := []) ⟨hx, hb, hml, hown, hts⟩ (c_X1_here l D κ b 0 v hv (c_) (by omega)) g_X1_106 n_X1_here ⟨Nat.le_of_ble_eq_true rfl, Nat.le_of_ble_eq_true rfl⟩ hK hP rfl rfl rfl hl.1 rfl (Nat.le_of_ble_eq_true rfl) dX1_isRuledOut_26 ⟨Nat.zero_le _, Nat.zero_le _⟩ ?_
  refine lv_lconst (v := lN (0)) hx hb dX1_isRuledOut_29 (by decide) ?_
  refine nv_lc_ne (tgt := 38) hx hb dX1_isRuledOut_30 dX1_isRuledOut_31 (by decide) (by omega) (by omega) (fun c_31 => ?_) (fun c_31 => ?_)
  · refine lv_iconst (v := nI (0)) hx hb dX1_isRuledOut_38 (by decide) ?_
    refine nv_topi (show (nI (0) : Int32) = bI (decide (wt_ v c_ (hh_ v) (tt_ v) = 0)) from by first | (rw [decide_eq_true c_31]; rfl) | (rw [decide_eq_false c_31]; rfl)) ?_
    exact hend _ _ _ _ dX1_isRuledOut_39 hP hS
  · refine lv_iconst (v := nI (1)) hx hb dX1_isRuledOut_34 (by decide) ?_
    refine lv_goto (tgt := 39) hx hb dX1_isRuledOut_35 (by decide) ?_
    refine nv_topi (show (nI (1) : Int32) = bI (decide (wt_ v c_ (hh_ v) (tt_ v) = 0)) from by first | (rw [decide_eq_true c_31]; rfl) | (rw [decide_eq_false c_31]; rfl)) ?_
    exact hend _ _ _ _ dX1_isRuledOut_39 hP hS
set_option maxHeartbeats 4000000 in
set_option maxRecDepth 100000 in
theorem c_X1_coinPercent_x1 (l : Launch) (D : va_G) (κ : Nat → ClassId) (b : Nat → Nat) (u : Nat) (v : VS) (hv : ok_v v) (hap : ap_ b 4) (x : Int32) (hx0 : ix_ x (vs_c v) = false) : Wr l yX1_coinPercent cX1_coinPercent 2 (some .int) 5 115 (Pw D (kt_ κ) (mw κ b u v) [.ref (b 0), .int (x)]) D (mw κ b 1 v) (ma_ b) (some (.int (nI (0)))) := by
  refine wr_intro (own := RX1) (by decide +kernel) rfl (Nat.le_of_ble_eq_true rfl) (fun p e s m args below meth c pc ls H locs hx hb hr hlk d h1 h2 => rew_I hx hb hr hlk d h1 h2) ?_
  intro p e s m args below meth c ls Qq hx hb hml hown hts hK hP hS hend hl
  have hl : lv_has ls 2 [(0, .ref (b 0)), (1, .int (x))] := hl
  obtain ⟨hv1, hv2, hv3, hv4, hv5, hv6⟩ := id hv
  have hP : va_P D vwCl (mw κ b u v) s.heap := hP
  refine lv_aload_n hx hb dX1_coinPercent_0 rfl (lv_at hl 0 rfl) ?_
  refine lv_iconst (v := nI (0)) hx hb dX1_coinPercent_1 (by decide) ?_
  refine va_put (D := D) (ci := 1) (v := .int (nI (0))) (ty := .int) (C := RX1) (T := TX1) (N := 8) hx hb hts i_X1 tyX1 tyX1_ok nmX1 hown hK hP (mx_D hap κ _ _ _ _ _ _ _ _) hS 0 rfl rfl 0 (by decide) (hts _ q_f_X1_19) (fun _ h9 => h9) rfl (by decide +kernel) rfl rfl (Nat.le_of_ble_eq_true rfl) dX1_coinPercent_2 (fun H locs hP _ hS => ?_)
  have hP : va_P D vwCl (mw κ b 0 v) H := hP
  refine lv_aload_n hx hb dX1_coinPercent_5 rfl (lv_at hl 0 rfl) ?_
  refine lv_iload_n hx hb dX1_coinPercent_6 rfl (lv_at hl 1 rfl) ?_
  refine rd_V (rest := []) ⟨hx, hb, hml, hown, hts⟩ (c_X1_isCoin l D κ b 0 v hv (x)) g_X1_80 n_X1_isCoin ⟨Nat.le_of_ble_eq_true rfl, Nat.le_of_ble_eq_true rfl⟩ hK hP rfl rfl rfl hl.1 rfl (Nat.le_of_ble_eq_true rfl) dX1_coinPercent_7 ⟨Nat.zero_le _, Nat.zero_le _⟩ ?_
  refine bv_if_ne (tgt := 19) hx hb dX1_coinPercent_10 (by decide) (fun z => absurd z (by simp [hx0])) (fun c_10 => ?_)
  refine lv_aload_n hx hb dX1_coinPercent_13 rfl (lv_at hl 0 rfl) ?_
  refine lv_iconst (v := nI (1)) hx hb dX1_coinPercent_14 (by decide) ?_
  refine wr_V (rest := []) ⟨hx, hb, hml, hown, hts⟩ (c_X1_fail_ok l D κ b 0 v hv hap (1) (by omega)) g_X1_73 n_X1_fail ⟨Nat.le_of_ble_eq_true rfl, Nat.le_of_ble_eq_true rfl⟩ hK hP rfl rfl rfl hl.1 rfl (Nat.le_of_ble_eq_true rfl) dX1_coinPercent_15 ⟨Nat.zero_le _, Nat.zero_le _⟩ hS (fun _ h => h) (fun H locs hP hS _ _ => ?_)
  have hP : va_P D vwCl (mw κ b 1 v) H := hP
  exact hend _ _ _ _ dX1_coinPercent_18 hP hS
set_option maxHeartbeats 4000000 in
set_option maxRecDepth 100000 in
theorem c_X1_coinPercent_x2 (l : Launch) (D : va_G) (κ : Nat → ClassId) (b : Nat → Nat) (u : Nat) (v : VS) (hv : ok_v v) (hap : ap_ b 4) (c_ : Nat) (hc : c_ < vs_c v) (hw0 : wl_ v (hh_ v) (tt_ v) = 0) : Wr l yX1_coinPercent cX1_coinPercent 2 (some .int) 5 115 (Pw D (kt_ κ) (mw κ b u v) [.ref (b 0), .int (nI (c_))]) D (mw κ b 2 v) (ma_ b) (some (.int (nI (0)))) := by
  refine wr_intro (own := RX1) (by decide +kernel) rfl (Nat.le_of_ble_eq_true rfl) (fun p e s m args below meth c pc ls H locs hx hb hr hlk d h1 h2 => rew_I hx hb hr hlk d h1 h2) ?_
  intro p e s m args below meth c ls Qq hx hb hml hown hts hK hP hS hend hl
  have hl : lv_has ls 2 [(0, .ref (b 0)), (1, .int (nI (c_)))] := hl
  obtain ⟨hv1, hv2, hv3, hv4, hv5, hv6⟩ := id hv
  have hP : va_P D vwCl (mw κ b u v) s.heap := hP
  have hq1 := hh_le v
  have hq2 := hh_tt v
  have hb2 := wl_b hv (a := hh_ v) (b := tt_ v) (by omega)
  refine lv_aload_n hx hb dX1_coinPercent_0 rfl (lv_at hl 0 rfl) ?_
  refine lv_iconst (v := nI (0)) hx hb dX1_coinPercent_1 (by decide) ?_
  refine va_put (D := D) (ci := 1) (v := .int (nI (0))) (ty := .int) (C := RX1) (T := TX1) (N := 8) hx hb hts i_X1 tyX1 tyX1_ok nmX1 hown hK hP (mx_D hap κ _ _ _ _ _ _ _ _) hS 0 rfl rfl 0 (by decide) (hts _ q_f_X1_19) (fun _ h9 => h9) rfl (by decide +kernel) rfl rfl (Nat.le_of_ble_eq_true rfl) dX1_coinPercent_2 (fun H locs hP _ hS => ?_)
  have hP : va_P D vwCl (mw κ b 0 v) H := hP
  refine lv_aload_n hx hb dX1_coinPercent_5 rfl (lv_at hl 0 rfl) ?_
  refine lv_iload_n hx hb dX1_coinPercent_6 rfl (lv_at hl 1 rfl) ?_
  refine rd_V (rest := []) ⟨hx, hb, hml, hown, hts⟩ (c_X1_isCoin l D κ b 0 v hv (nI (c_))) g_X1_80 n_X1_isCoin ⟨Nat.le_of_ble_eq_true rfl, Nat.le_of_ble_eq_true rfl⟩ hK hP rfl rfl rfl hl.1 rfl (Nat.le_of_ble_eq_true rfl) dX1_coinPercent_7 ⟨Nat.zero_le _, Nat.zero_le _⟩ ?_
  refine nv_topi (congrArg bI (show (ix_ (nI (c_)) (vs_c v) : Bool) = true from by exact ix_nI (j := c_) (by omega) (by omega))) ?_
  refine bv_if_ne (tgt := 19) hx hb dX1_coinPercent_10 (by decide) (fun c_10 => ?_) (fun z => absurd z (by simp))
  refine lv_aload_n hx hb dX1_coinPercent_19 rfl (lv_at hl 0 rfl) ?_
  refine rd_V (rest := []) ⟨hx, hb, hml, hown, hts⟩ (c_X1_all l D κ b 0 v hv) g_X1_113 n_X1_all ⟨Nat.le_of_ble_eq_true rfl, Nat.le_of_ble_eq_true rfl⟩ hK hP rfl rfl rfl hl.1 rfl (Nat.le_of_ble_eq_true rfl) dX1_coinPercent_20 ⟨Nat.zero_le _, Nat.zero_le _⟩ ?_
  refine lv_lconst (v := lN (0)) hx hb dX1_coinPercent_23 (by decide) ?_
  refine nv_lc_ne (tgt := 36) hx hb dX1_coinPercent_24 dX1_coinPercent_25 (by decide) (by omega) (by omega) (fun z => absurd z (by omega)) (fun c_25 => ?_)
  refine lv_aload_n hx hb dX1_coinPercent_28 rfl (lv_at hl 0 rfl) ?_
  refine lv_iconst (v := nI (2)) hx hb dX1_coinPercent_29 (by decide) ?_
  refine wr_V (rest := []) ⟨hx, hb, hml, hown, hts⟩ (c_X1_fail_ok l D κ b 0 v hv hap (2) (by omega)) g_X1_73 n_X1_fail ⟨Nat.le_of_ble_eq_true rfl, Nat.le_of_ble_eq_true rfl⟩ hK hP rfl rfl rfl hl.1 rfl (Nat.le_of_ble_eq_true rfl) dX1_coinPercent_30 ⟨Nat.zero_le _, Nat.zero_le _⟩ hS (fun _ h => h) (fun H locs hP hS _ _ => ?_)
  have hP : va_P D vwCl (mw κ b 2 v) H := hP
  refine lv_goto (tgt := 51) hx hb dX1_coinPercent_33 (by decide) ?_
  exact hend _ _ _ _ dX1_coinPercent_51 hP hS
set_option maxHeartbeats 4000000 in
set_option maxRecDepth 100000 in
theorem c_X1_coinPercent_ok (l : Launch) (D : va_G) (κ : Nat → ClassId) (b : Nat → Nat) (u : Nat) (v : VS) (hv : ok_v v) (hap : ap_ b 4) (c_ : Nat) (hc : c_ < vs_c v) (hw : 0 < wl_ v (hh_ v) (tt_ v)) : Wr l yX1_coinPercent cX1_coinPercent 2 (some .int) 5 115 (Pw D (kt_ κ) (mw κ b u v) [.ref (b 0), .int (nI (c_))]) D (mw κ b 0 v) (ma_ b) (some (.int (nI (wt_ v c_ (hh_ v) (tt_ v) * 100 / wl_ v (hh_ v) (tt_ v))))) := by
  refine wr_intro (own := RX1) (by decide +kernel) rfl (Nat.le_of_ble_eq_true rfl) (fun p e s m args below meth c pc ls H locs hx hb hr hlk d h1 h2 => rew_I hx hb hr hlk d h1 h2) ?_
  intro p e s m args below meth c ls Qq hx hb hml hown hts hK hP hS hend hl
  have hl : lv_has ls 2 [(0, .ref (b 0)), (1, .int (nI (c_)))] := hl
  obtain ⟨hv1, hv2, hv3, hv4, hv5, hv6⟩ := id hv
  have hP : va_P D vwCl (mw κ b u v) s.heap := hP
  have hq1 := hh_le v
  have hq2 := hh_tt v
  have hb1 := wt_b hv c_ (a := hh_ v) (b := tt_ v) (by omega)
  have hb2 := wl_b hv (a := hh_ v) (b := tt_ v) (by omega)
  refine lv_aload_n hx hb dX1_coinPercent_0 rfl (lv_at hl 0 rfl) ?_
  refine lv_iconst (v := nI (0)) hx hb dX1_coinPercent_1 (by decide) ?_
  refine va_put (D := D) (ci := 1) (v := .int (nI (0))) (ty := .int) (C := RX1) (T := TX1) (N := 8) hx hb hts i_X1 tyX1 tyX1_ok nmX1 hown hK hP (mx_D hap κ _ _ _ _ _ _ _ _) hS 0 rfl rfl 0 (by decide) (hts _ q_f_X1_19) (fun _ h9 => h9) rfl (by decide +kernel) rfl rfl (Nat.le_of_ble_eq_true rfl) dX1_coinPercent_2 (fun H locs hP _ hS => ?_)
  have hP : va_P D vwCl (mw κ b 0 v) H := hP
  refine lv_aload_n hx hb dX1_coinPercent_5 rfl (lv_at hl 0 rfl) ?_
  refine lv_iload_n hx hb dX1_coinPercent_6 rfl (lv_at hl 1 rfl) ?_
  refine rd_V (rest := []) ⟨hx, hb, hml, hown, hts⟩ (c_X1_isCoin l D κ b 0 v hv (nI (c_))) g_X1_80 n_X1_isCoin ⟨Nat.le_of_ble_eq_true rfl, Nat.le_of_ble_eq_true rfl⟩ hK hP rfl rfl rfl hl.1 rfl (Nat.le_of_ble_eq_true rfl) dX1_coinPercent_7 ⟨Nat.zero_le _, Nat.zero_le _⟩ ?_
  refine nv_topi (congrArg bI (show (ix_ (nI (c_)) (vs_c v) : Bool) = true from by exact ix_nI (j := c_) (by omega) (by omega))) ?_
  refine bv_if_ne (tgt := 19) hx hb dX1_coinPercent_10 (by decide) (fun c_10 => ?_) (fun z => absurd z (by simp))
  refine lv_aload_n hx hb dX1_coinPercent_19 rfl (lv_at hl 0 rfl) ?_
  refine rd_V (rest := []) ⟨hx, hb, hml, hown, hts⟩ (c_X1_all l D κ b 0 v hv) g_X1_113 n_X1_all ⟨Nat.le_of_ble_eq_true rfl, Nat.le_of_ble_eq_true rfl⟩ hK hP rfl rfl rfl hl.1 rfl (Nat.le_of_ble_eq_true rfl) dX1_coinPercent_20 ⟨Nat.zero_le _, Nat.zero_le _⟩ ?_
  refine lv_lconst (v := lN (0)) hx hb dX1_coinPercent_23 (by decide) ?_
  refine nv_lc_ne (tgt := 36) hx hb dX1_coinPercent_24 dX1_coinPercent_25 (by decide) (by omega) (by omega) (fun c_25 => ?_) (fun z => absurd z (by omega))
  refine lv_aload_n hx hb dX1_coinPercent_36 rfl (lv_at hl 0 rfl) ?_
  refine lv_iload_n hx hb dX1_coinPercent_37 rfl (lv_at hl 1 rfl) ?_
  refine rd_V (rest := []) ⟨hx, hb, hml, hown, hts⟩ (c_X1_here l D κ b 0 v hv (c_) (by omega)) g_X1_106 n_X1_here ⟨Nat.le_of_ble_eq_true rfl, Nat.le_of_ble_eq_true rfl⟩ hK hP rfl rfl rfl hl.1 rfl (Nat.le_of_ble_eq_true rfl) dX1_coinPercent_38 ⟨Nat.zero_le _, Nat.zero_le _⟩ ?_
  refine lv_ldc2 (own := RX1) (index := 120) (v := lN (100)) hx hb hown (hts _ q_k_X1_120) dX1_coinPercent_41 ?_
  refine nv_lmul hx hb dX1_coinPercent_44 rfl ?_
  refine lv_aload_n hx hb dX1_coinPercent_45 rfl (lv_at hl 0 rfl) ?_
  refine rd_V (rest := [.long (lN ((wt_ v c_ (hh_ v) (tt_ v)) * 100))]) ⟨hx, hb, hml, hown, hts⟩ (c_X1_all l D κ b 0 v hv) g_X1_113 n_X1_all ⟨Nat.le_of_ble_eq_true rfl, Nat.le_of_ble_eq_true rfl⟩ hK hP rfl rfl rfl hl.1 rfl (Nat.le_of_ble_eq_true rfl) dX1_coinPercent_46 ⟨Nat.zero_le _, Nat.zero_le _⟩ ?_
  refine nv_ldiv hx hb dX1_coinPercent_49 (by omega) (by omega) (by omega) rfl ?_
  refine nv_l2i hx hb dX1_coinPercent_50 ?_
  refine nv_topi (congrArg nI (show (((wt_ v c_ (hh_ v) (tt_ v)) * 100) / (wl_ v (hh_ v) (tt_ v)) : Nat) = wt_ v c_ (hh_ v) (tt_ v) * 100 / wl_ v (hh_ v) (tt_ v) from by rfl)) ?_
  exact hend _ _ _ _ dX1_coinPercent_51 hP hS
set_option maxHeartbeats 4000000 in
set_option maxRecDepth 100000 in
theorem c_X1_schoolPercent_x1 (l : Launch) (D : va_G) (κ : Nat → ClassId) (b : Nat → Nat) (u : Nat) (v : VS) (hv : ok_v v) (hap : ap_ b 4) (x : Int32) (hx0 : ix_ x (vs_n v) = false) : Wr l yX1_schoolPercent cX1_schoolPercent 2 (some .int) 5 115 (Pw D (kt_ κ) (mw κ b u v) [.ref (b 0), .int (x)]) D (mw κ b 1 v) (ma_ b) (some (.int (nI (0)))) := by
  refine wr_intro (own := RX1) (by decide +kernel) rfl (Nat.le_of_ble_eq_true rfl) (fun p e s m args below meth c pc ls H locs hx hb hr hlk d h1 h2 => rew_I hx hb hr hlk d h1 h2) ?_
  intro p e s m args below meth c ls Qq hx hb hml hown hts hK hP hS hend hl
  have hl : lv_has ls 2 [(0, .ref (b 0)), (1, .int (x))] := hl
  obtain ⟨hv1, hv2, hv3, hv4, hv5, hv6⟩ := id hv
  have hP : va_P D vwCl (mw κ b u v) s.heap := hP
  refine lv_aload_n hx hb dX1_schoolPercent_0 rfl (lv_at hl 0 rfl) ?_
  refine lv_iconst (v := nI (0)) hx hb dX1_schoolPercent_1 (by decide) ?_
  refine va_put (D := D) (ci := 1) (v := .int (nI (0))) (ty := .int) (C := RX1) (T := TX1) (N := 8) hx hb hts i_X1 tyX1 tyX1_ok nmX1 hown hK hP (mx_D hap κ _ _ _ _ _ _ _ _) hS 0 rfl rfl 0 (by decide) (hts _ q_f_X1_19) (fun _ h9 => h9) rfl (by decide +kernel) rfl rfl (Nat.le_of_ble_eq_true rfl) dX1_schoolPercent_2 (fun H locs hP _ hS => ?_)
  have hP : va_P D vwCl (mw κ b 0 v) H := hP
  refine lv_aload_n hx hb dX1_schoolPercent_5 rfl (lv_at hl 0 rfl) ?_
  refine lv_iload_n hx hb dX1_schoolPercent_6 rfl (lv_at hl 1 rfl) ?_
  refine rd_V (rest := []) ⟨hx, hb, hml, hown, hts⟩ (c_X1_isSchool l D κ b 0 v hv (x)) g_X1_76 n_X1_isSchool ⟨Nat.le_of_ble_eq_true rfl, Nat.le_of_ble_eq_true rfl⟩ hK hP rfl rfl rfl hl.1 rfl (Nat.le_of_ble_eq_true rfl) dX1_schoolPercent_7 ⟨Nat.zero_le _, Nat.zero_le _⟩ ?_
  refine bv_if_ne (tgt := 19) hx hb dX1_schoolPercent_10 (by decide) (fun z => absurd z (by simp [hx0])) (fun c_10 => ?_)
  refine lv_aload_n hx hb dX1_schoolPercent_13 rfl (lv_at hl 0 rfl) ?_
  refine lv_iconst (v := nI (1)) hx hb dX1_schoolPercent_14 (by decide) ?_
  refine wr_V (rest := []) ⟨hx, hb, hml, hown, hts⟩ (c_X1_fail_ok l D κ b 0 v hv hap (1) (by omega)) g_X1_73 n_X1_fail ⟨Nat.le_of_ble_eq_true rfl, Nat.le_of_ble_eq_true rfl⟩ hK hP rfl rfl rfl hl.1 rfl (Nat.le_of_ble_eq_true rfl) dX1_schoolPercent_15 ⟨Nat.zero_le _, Nat.zero_le _⟩ hS (fun _ h => h) (fun H locs hP hS _ _ => ?_)
  have hP : va_P D vwCl (mw κ b 1 v) H := hP
  exact hend _ _ _ _ dX1_schoolPercent_18 hP hS
set_option maxHeartbeats 4000000 in
set_option maxRecDepth 100000 in
theorem c_X1_schoolPercent_x2 (l : Launch) (D : va_G) (κ : Nat → ClassId) (b : Nat → Nat) (u : Nat) (v : VS) (hv : ok_v v) (hap : ap_ b 4) (s_ : Nat) (hs : s_ < vs_n v) (hw0 : wl_ v (hh_ v) (tt_ v) = 0) : Wr l yX1_schoolPercent cX1_schoolPercent 2 (some .int) 5 115 (Pw D (kt_ κ) (mw κ b u v) [.ref (b 0), .int (nI (s_))]) D (mw κ b 2 v) (ma_ b) (some (.int (nI (0)))) := by
  refine wr_intro (own := RX1) (by decide +kernel) rfl (Nat.le_of_ble_eq_true rfl) (fun p e s m args below meth c pc ls H locs hx hb hr hlk d h1 h2 => rew_I hx hb hr hlk d h1 h2) ?_
  intro p e s m args below meth c ls Qq hx hb hml hown hts hK hP hS hend hl
  have hl : lv_has ls 2 [(0, .ref (b 0)), (1, .int (nI (s_)))] := hl
  obtain ⟨hv1, hv2, hv3, hv4, hv5, hv6⟩ := id hv
  have hP : va_P D vwCl (mw κ b u v) s.heap := hP
  have hq1 := hh_le v
  have hq2 := hh_tt v
  have hb2 := wl_b hv (a := hh_ v) (b := tt_ v) (by omega)
  refine lv_aload_n hx hb dX1_schoolPercent_0 rfl (lv_at hl 0 rfl) ?_
  refine lv_iconst (v := nI (0)) hx hb dX1_schoolPercent_1 (by decide) ?_
  refine va_put (D := D) (ci := 1) (v := .int (nI (0))) (ty := .int) (C := RX1) (T := TX1) (N := 8) hx hb hts i_X1 tyX1 tyX1_ok nmX1 hown hK hP (mx_D hap κ _ _ _ _ _ _ _ _) hS 0 rfl rfl 0 (by decide) (hts _ q_f_X1_19) (fun _ h9 => h9) rfl (by decide +kernel) rfl rfl (Nat.le_of_ble_eq_true rfl) dX1_schoolPercent_2 (fun H locs hP _ hS => ?_)
  have hP : va_P D vwCl (mw κ b 0 v) H := hP
  refine lv_aload_n hx hb dX1_schoolPercent_5 rfl (lv_at hl 0 rfl) ?_
  refine lv_iload_n hx hb dX1_schoolPercent_6 rfl (lv_at hl 1 rfl) ?_
  refine rd_V (rest := []) ⟨hx, hb, hml, hown, hts⟩ (c_X1_isSchool l D κ b 0 v hv (nI (s_))) g_X1_76 n_X1_isSchool ⟨Nat.le_of_ble_eq_true rfl, Nat.le_of_ble_eq_true rfl⟩ hK hP rfl rfl rfl hl.1 rfl (Nat.le_of_ble_eq_true rfl) dX1_schoolPercent_7 ⟨Nat.zero_le _, Nat.zero_le _⟩ ?_
  refine nv_topi (congrArg bI (show (ix_ (nI (s_)) (vs_n v) : Bool) = true from by exact ix_nI (j := s_) (by omega) (by omega))) ?_
  refine bv_if_ne (tgt := 19) hx hb dX1_schoolPercent_10 (by decide) (fun c_10 => ?_) (fun z => absurd z (by simp))
  refine lv_aload_n hx hb dX1_schoolPercent_19 rfl (lv_at hl 0 rfl) ?_
  refine rd_V (rest := []) ⟨hx, hb, hml, hown, hts⟩ (c_X1_all l D κ b 0 v hv) g_X1_113 n_X1_all ⟨Nat.le_of_ble_eq_true rfl, Nat.le_of_ble_eq_true rfl⟩ hK hP rfl rfl rfl hl.1 rfl (Nat.le_of_ble_eq_true rfl) dX1_schoolPercent_20 ⟨Nat.zero_le _, Nat.zero_le _⟩ ?_
  refine lv_lconst (v := lN (0)) hx hb dX1_schoolPercent_23 (by decide) ?_
  refine nv_lc_ne (tgt := 36) hx hb dX1_schoolPercent_24 dX1_schoolPercent_25 (by decide) (by omega) (by omega) (fun z => absurd z (by omega)) (fun c_25 => ?_)
  refine lv_aload_n hx hb dX1_schoolPercent_28 rfl (lv_at hl 0 rfl) ?_
  refine lv_iconst (v := nI (2)) hx hb dX1_schoolPercent_29 (by decide) ?_
  refine wr_V (rest := []) ⟨hx, hb, hml, hown, hts⟩ (c_X1_fail_ok l D κ b 0 v hv hap (2) (by omega)) g_X1_73 n_X1_fail ⟨Nat.le_of_ble_eq_true rfl, Nat.le_of_ble_eq_true rfl⟩ hK hP rfl rfl rfl hl.1 rfl (Nat.le_of_ble_eq_true rfl) dX1_schoolPercent_30 ⟨Nat.zero_le _, Nat.zero_le _⟩ hS (fun _ h => h) (fun H locs hP hS _ _ => ?_)
  have hP : va_P D vwCl (mw κ b 2 v) H := hP
  refine lv_goto (tgt := 51) hx hb dX1_schoolPercent_33 (by decide) ?_
  exact hend _ _ _ _ dX1_schoolPercent_51 hP hS
set_option maxHeartbeats 4000000 in
set_option maxRecDepth 100000 in
theorem c_X1_schoolPercent_ok (l : Launch) (D : va_G) (κ : Nat → ClassId) (b : Nat → Nat) (u : Nat) (v : VS) (hv : ok_v v) (hap : ap_ b 4) (s_ : Nat) (hs : s_ < vs_n v) (hw : 0 < wl_ v (hh_ v) (tt_ v)) : Wr l yX1_schoolPercent cX1_schoolPercent 2 (some .int) 5 115 (Pw D (kt_ κ) (mw κ b u v) [.ref (b 0), .int (nI (s_))]) D (mw κ b 0 v) (ma_ b) (some (.int (nI (sc_ v s_ (hh_ v) (tt_ v) * 100 / wl_ v (hh_ v) (tt_ v))))) := by
  refine wr_intro (own := RX1) (by decide +kernel) rfl (Nat.le_of_ble_eq_true rfl) (fun p e s m args below meth c pc ls H locs hx hb hr hlk d h1 h2 => rew_I hx hb hr hlk d h1 h2) ?_
  intro p e s m args below meth c ls Qq hx hb hml hown hts hK hP hS hend hl
  have hl : lv_has ls 2 [(0, .ref (b 0)), (1, .int (nI (s_)))] := hl
  obtain ⟨hv1, hv2, hv3, hv4, hv5, hv6⟩ := id hv
  have hP : va_P D vwCl (mw κ b u v) s.heap := hP
  have hq1 := hh_le v
  have hq2 := hh_tt v
  have hb1 := sc_b hv s_ (a := hh_ v) (b := tt_ v) (by omega)
  have hb2 := wl_b hv (a := hh_ v) (b := tt_ v) (by omega)
  refine lv_aload_n hx hb dX1_schoolPercent_0 rfl (lv_at hl 0 rfl) ?_
  refine lv_iconst (v := nI (0)) hx hb dX1_schoolPercent_1 (by decide) ?_
  refine va_put (D := D) (ci := 1) (v := .int (nI (0))) (ty := .int) (C := RX1) (T := TX1) (N := 8) hx hb hts i_X1 tyX1 tyX1_ok nmX1 hown hK hP (mx_D hap κ _ _ _ _ _ _ _ _) hS 0 rfl rfl 0 (by decide) (hts _ q_f_X1_19) (fun _ h9 => h9) rfl (by decide +kernel) rfl rfl (Nat.le_of_ble_eq_true rfl) dX1_schoolPercent_2 (fun H locs hP _ hS => ?_)
  have hP : va_P D vwCl (mw κ b 0 v) H := hP
  refine lv_aload_n hx hb dX1_schoolPercent_5 rfl (lv_at hl 0 rfl) ?_
  refine lv_iload_n hx hb dX1_schoolPercent_6 rfl (lv_at hl 1 rfl) ?_
  refine rd_V (rest := []) ⟨hx, hb, hml, hown, hts⟩ (c_X1_isSchool l D κ b 0 v hv (nI (s_))) g_X1_76 n_X1_isSchool ⟨Nat.le_of_ble_eq_true rfl, Nat.le_of_ble_eq_true rfl⟩ hK hP rfl rfl rfl hl.1 rfl (Nat.le_of_ble_eq_true rfl) dX1_schoolPercent_7 ⟨Nat.zero_le _, Nat.zero_le _⟩ ?_
  refine nv_topi (congrArg bI (show (ix_ (nI (s_)) (vs_n v) : Bool) = true from by exact ix_nI (j := s_) (by omega) (by omega))) ?_
  refine bv_if_ne (tgt := 19) hx hb dX1_schoolPercent_10 (by decide) (fun c_10 => ?_) (fun z => absurd z (by simp))
  refine lv_aload_n hx hb dX1_schoolPercent_19 rfl (lv_at hl 0 rfl) ?_
  refine rd_V (rest := []) ⟨hx, hb, hml, hown, hts⟩ (c_X1_all l D κ b 0 v hv) g_X1_113 n_X1_all ⟨Nat.le_of_ble_eq_true rfl, Nat.le_of_ble_eq_true rfl⟩ hK hP rfl rfl rfl hl.1 rfl (Nat.le_of_ble_eq_true rfl) dX1_schoolPercent_20 ⟨Nat.zero_le _, Nat.zero_le _⟩ ?_
  refine lv_lconst (v := lN (0)) hx hb dX1_schoolPercent_23 (by decide) ?_
  refine nv_lc_ne (tgt := 36) hx hb dX1_schoolPercent_24 dX1_schoolPercent_25 (by decide) (by omega) (by omega) (fun c_25 => ?_) (fun z => absurd z (by omega))
  refine lv_aload_n hx hb dX1_schoolPercent_36 rfl (lv_at hl 0 rfl) ?_
  refine lv_iload_n hx hb dX1_schoolPercent_37 rfl (lv_at hl 1 rfl) ?_
  refine rd_V (rest := []) ⟨hx, hb, hml, hown, hts⟩ (c_X1_schoolHere l D κ b 0 v hv (s_) (by omega)) g_X1_110 n_X1_schoolHere ⟨Nat.le_of_ble_eq_true rfl, Nat.le_of_ble_eq_true rfl⟩ hK hP rfl rfl rfl hl.1 rfl (Nat.le_of_ble_eq_true rfl) dX1_schoolPercent_38 ⟨Nat.zero_le _, Nat.zero_le _⟩ ?_
  refine lv_ldc2 (own := RX1) (index := 120) (v := lN (100)) hx hb hown (hts _ q_k_X1_120) dX1_schoolPercent_41 ?_
  refine nv_lmul hx hb dX1_schoolPercent_44 rfl ?_
  refine lv_aload_n hx hb dX1_schoolPercent_45 rfl (lv_at hl 0 rfl) ?_
  refine rd_V (rest := [.long (lN ((sc_ v s_ (hh_ v) (tt_ v)) * 100))]) ⟨hx, hb, hml, hown, hts⟩ (c_X1_all l D κ b 0 v hv) g_X1_113 n_X1_all ⟨Nat.le_of_ble_eq_true rfl, Nat.le_of_ble_eq_true rfl⟩ hK hP rfl rfl rfl hl.1 rfl (Nat.le_of_ble_eq_true rfl) dX1_schoolPercent_46 ⟨Nat.zero_le _, Nat.zero_le _⟩ ?_
  refine nv_ldiv hx hb dX1_schoolPercent_49 (by omega) (by omega) (by omega) rfl ?_
  refine nv_l2i hx hb dX1_schoolPercent_50 ?_
  refine nv_topi (congrArg nI (show (((sc_ v s_ (hh_ v) (tt_ v)) * 100) / (wl_ v (hh_ v) (tt_ v)) : Nat) = sc_ v s_ (hh_ v) (tt_ v) * 100 / wl_ v (hh_ v) (tt_ v) from by rfl)) ?_
  exact hend _ _ _ _ dX1_schoolPercent_51 hP hS
set_option maxHeartbeats 4000000 in
set_option maxRecDepth 100000 in
theorem c_X1_leadingCoin_x1 (l : Launch) (D : va_G) (κ : Nat → ClassId) (b : Nat → Nat) (u : Nat) (v : VS) (hv : ok_v v) (hap : ap_ b 4) (hw0 : wl_ v (hh_ v) (tt_ v) = 0) : Wr l yX1_leadingCoin cX1_leadingCoin 1 (some .int) 5 115 (Pw D (kt_ κ) (mw κ b u v) [.ref (b 0)]) D (mw κ b 1 v) (ma_ b) (some (.int (nI (0)))) := by
  refine wr_intro (own := RX1) (by decide +kernel) rfl (Nat.le_of_ble_eq_true rfl) (fun p e s m args below meth c pc ls H locs hx hb hr hlk d h1 h2 => rew_I hx hb hr hlk d h1 h2) ?_
  intro p e s m args below meth c ls Qq hx hb hml hown hts hK hP hS hend hl
  have hl : lv_has ls 1 [(0, .ref (b 0))] := hl
  obtain ⟨hv1, hv2, hv3, hv4, hv5, hv6⟩ := id hv
  have hP : va_P D vwCl (mw κ b u v) s.heap := hP
  have hq1 := hh_le v
  have hq2 := hh_tt v
  have hb2 := wl_b hv (a := hh_ v) (b := tt_ v) (by omega)
  refine lv_aload_n hx hb dX1_leadingCoin_0 rfl (lv_at hl 0 rfl) ?_
  refine lv_iconst (v := nI (0)) hx hb dX1_leadingCoin_1 (by decide) ?_
  refine va_put (D := D) (ci := 1) (v := .int (nI (0))) (ty := .int) (C := RX1) (T := TX1) (N := 8) hx hb hts i_X1 tyX1 tyX1_ok nmX1 hown hK hP (mx_D hap κ _ _ _ _ _ _ _ _) hS 0 rfl rfl 0 (by decide) (hts _ q_f_X1_19) (fun _ h9 => h9) rfl (by decide +kernel) rfl rfl (Nat.le_of_ble_eq_true rfl) dX1_leadingCoin_2 (fun H locs hP _ hS => ?_)
  have hP : va_P D vwCl (mw κ b 0 v) H := hP
  refine lv_aload_n hx hb dX1_leadingCoin_5 rfl (lv_at hl 0 rfl) ?_
  refine rd_V (rest := []) ⟨hx, hb, hml, hown, hts⟩ (c_X1_all l D κ b 0 v hv) g_X1_113 n_X1_all ⟨Nat.le_of_ble_eq_true rfl, Nat.le_of_ble_eq_true rfl⟩ hK hP rfl rfl rfl hl.1 rfl (Nat.le_of_ble_eq_true rfl) dX1_leadingCoin_6 ⟨Nat.zero_le _, Nat.zero_le _⟩ ?_
  refine lv_lconst (v := lN (0)) hx hb dX1_leadingCoin_9 (by decide) ?_
  refine nv_lc_ne (tgt := 22) hx hb dX1_leadingCoin_10 dX1_leadingCoin_11 (by decide) (by omega) (by omega) (fun z => absurd z (by omega)) (fun c_11 => ?_)
  refine lv_aload_n hx hb dX1_leadingCoin_14 rfl (lv_at hl 0 rfl) ?_
  refine lv_iconst (v := nI (1)) hx hb dX1_leadingCoin_15 (by decide) ?_
  refine wr_V (rest := []) ⟨hx, hb, hml, hown, hts⟩ (c_X1_fail_ok l D κ b 0 v hv hap (1) (by omega)) g_X1_73 n_X1_fail ⟨Nat.le_of_ble_eq_true rfl, Nat.le_of_ble_eq_true rfl⟩ hK hP rfl rfl rfl hl.1 rfl (Nat.le_of_ble_eq_true rfl) dX1_leadingCoin_16 ⟨Nat.zero_le _, Nat.zero_le _⟩ hS (fun _ h => h) (fun H locs hP hS _ _ => ?_)
  have hP : va_P D vwCl (mw κ b 1 v) H := hP
  refine lv_goto (tgt := 26) hx hb dX1_leadingCoin_19 (by decide) ?_
  exact hend _ _ _ _ dX1_leadingCoin_26 hP hS
set_option maxHeartbeats 4000000 in
set_option maxRecDepth 100000 in
theorem c_X1_leadingCoin_ok (l : Launch) (D : va_G) (κ : Nat → ClassId) (b : Nat → Nat) (u : Nat) (v : VS) (hv : ok_v v) (hap : ap_ b 4) (hw : 0 < wl_ v (hh_ v) (tt_ v)) : Wr l yX1_leadingCoin cX1_leadingCoin 1 (some .int) 5 115 (Pw D (kt_ κ) (mw κ b u v) [.ref (b 0)]) D (mw κ b 0 v) (ma_ b) (some (.int (nI (ld_ v (hh_ v) (tt_ v) (vs_c v))))) := by
  refine wr_intro (own := RX1) (by decide +kernel) rfl (Nat.le_of_ble_eq_true rfl) (fun p e s m args below meth c pc ls H locs hx hb hr hlk d h1 h2 => rew_I hx hb hr hlk d h1 h2) ?_
  intro p e s m args below meth c ls Qq hx hb hml hown hts hK hP hS hend hl
  have hl : lv_has ls 1 [(0, .ref (b 0))] := hl
  obtain ⟨hv1, hv2, hv3, hv4, hv5, hv6⟩ := id hv
  have hP : va_P D vwCl (mw κ b u v) s.heap := hP
  have hq1 := hh_le v
  have hq2 := hh_tt v
  have hb2 := wl_b hv (a := hh_ v) (b := tt_ v) (by omega)
  refine lv_aload_n hx hb dX1_leadingCoin_0 rfl (lv_at hl 0 rfl) ?_
  refine lv_iconst (v := nI (0)) hx hb dX1_leadingCoin_1 (by decide) ?_
  refine va_put (D := D) (ci := 1) (v := .int (nI (0))) (ty := .int) (C := RX1) (T := TX1) (N := 8) hx hb hts i_X1 tyX1 tyX1_ok nmX1 hown hK hP (mx_D hap κ _ _ _ _ _ _ _ _) hS 0 rfl rfl 0 (by decide) (hts _ q_f_X1_19) (fun _ h9 => h9) rfl (by decide +kernel) rfl rfl (Nat.le_of_ble_eq_true rfl) dX1_leadingCoin_2 (fun H locs hP _ hS => ?_)
  have hP : va_P D vwCl (mw κ b 0 v) H := hP
  refine lv_aload_n hx hb dX1_leadingCoin_5 rfl (lv_at hl 0 rfl) ?_
  refine rd_V (rest := []) ⟨hx, hb, hml, hown, hts⟩ (c_X1_all l D κ b 0 v hv) g_X1_113 n_X1_all ⟨Nat.le_of_ble_eq_true rfl, Nat.le_of_ble_eq_true rfl⟩ hK hP rfl rfl rfl hl.1 rfl (Nat.le_of_ble_eq_true rfl) dX1_leadingCoin_6 ⟨Nat.zero_le _, Nat.zero_le _⟩ ?_
  refine lv_lconst (v := lN (0)) hx hb dX1_leadingCoin_9 (by decide) ?_
  refine nv_lc_ne (tgt := 22) hx hb dX1_leadingCoin_10 dX1_leadingCoin_11 (by decide) (by omega) (by omega) (fun c_11 => ?_) (fun z => absurd z (by omega))
  refine lv_aload_n hx hb dX1_leadingCoin_22 rfl (lv_at hl 0 rfl) ?_
  refine rd_V (rest := []) ⟨hx, hb, hml, hown, hts⟩ (c_X1_leads l D κ b 0 v hv) g_X1_125 n_X1_leads ⟨Nat.le_of_ble_eq_true rfl, Nat.le_of_ble_eq_true rfl⟩ hK hP rfl rfl rfl hl.1 rfl (Nat.le_of_ble_eq_true rfl) dX1_leadingCoin_23 ⟨Nat.zero_le _, Nat.zero_le _⟩ ?_
  exact hend _ _ _ _ dX1_leadingCoin_26 hP hS
set_option maxHeartbeats 4000000 in
set_option maxRecDepth 100000 in
theorem c_X1_leadingSchool_x1 (l : Launch) (D : va_G) (κ : Nat → ClassId) (b : Nat → Nat) (u : Nat) (v : VS) (hv : ok_v v) (hap : ap_ b 4) (hw0 : wl_ v (hh_ v) (tt_ v) = 0) : Wr l yX1_leadingSchool cX1_leadingSchool 3 (some .int) 5 115 (Pw D (kt_ κ) (mw κ b u v) [.ref (b 0)]) D (mw κ b 1 v) (ma_ b) (some (.int (nI (0)))) := by
  refine wr_intro (own := RX1) (by decide +kernel) rfl (Nat.le_of_ble_eq_true rfl) (fun p e s m args below meth c pc ls H locs hx hb hr hlk d h1 h2 => rew_I hx hb hr hlk d h1 h2) ?_
  intro p e s m args below meth c ls Qq hx hb hml hown hts hK hP hS hend hl
  have hl : lv_has ls 3 [(0, .ref (b 0))] := hl
  obtain ⟨hv1, hv2, hv3, hv4, hv5, hv6⟩ := id hv
  have hP : va_P D vwCl (mw κ b u v) s.heap := hP
  have hq1 := hh_le v
  have hq2 := hh_tt v
  have hb2 := wl_b hv (a := hh_ v) (b := tt_ v) (by omega)
  refine lv_aload_n hx hb dX1_leadingSchool_0 rfl (lv_at hl 0 rfl) ?_
  refine lv_iconst (v := nI (0)) hx hb dX1_leadingSchool_1 (by decide) ?_
  refine va_put (D := D) (ci := 1) (v := .int (nI (0))) (ty := .int) (C := RX1) (T := TX1) (N := 8) hx hb hts i_X1 tyX1 tyX1_ok nmX1 hown hK hP (mx_D hap κ _ _ _ _ _ _ _ _) hS 0 rfl rfl 0 (by decide) (hts _ q_f_X1_19) (fun _ h9 => h9) rfl (by decide +kernel) rfl rfl (Nat.le_of_ble_eq_true rfl) dX1_leadingSchool_2 (fun H locs hP _ hS => ?_)
  have hP : va_P D vwCl (mw κ b 0 v) H := hP
  refine lv_aload_n hx hb dX1_leadingSchool_5 rfl (lv_at hl 0 rfl) ?_
  refine rd_V (rest := []) ⟨hx, hb, hml, hown, hts⟩ (c_X1_all l D κ b 0 v hv) g_X1_113 n_X1_all ⟨Nat.le_of_ble_eq_true rfl, Nat.le_of_ble_eq_true rfl⟩ hK hP rfl rfl rfl hl.1 rfl (Nat.le_of_ble_eq_true rfl) dX1_leadingSchool_6 ⟨Nat.zero_le _, Nat.zero_le _⟩ ?_
  refine lv_lconst (v := lN (0)) hx hb dX1_leadingSchool_9 (by decide) ?_
  refine nv_lc_ne (tgt := 20) hx hb dX1_leadingSchool_10 dX1_leadingSchool_11 (by decide) (by omega) (by omega) (fun z => absurd z (by omega)) (fun c_11 => ?_)
  refine lv_aload_n hx hb dX1_leadingSchool_14 rfl (lv_at hl 0 rfl) ?_
  refine lv_iconst (v := nI (1)) hx hb dX1_leadingSchool_15 (by decide) ?_
  refine wr_V (rest := []) ⟨hx, hb, hml, hown, hts⟩ (c_X1_fail_ok l D κ b 0 v hv hap (1) (by omega)) g_X1_73 n_X1_fail ⟨Nat.le_of_ble_eq_true rfl, Nat.le_of_ble_eq_true rfl⟩ hK hP rfl rfl rfl hl.1 rfl (Nat.le_of_ble_eq_true rfl) dX1_leadingSchool_16 ⟨Nat.zero_le _, Nat.zero_le _⟩ hS (fun _ h => h) (fun H locs hP hS _ _ => ?_)
  have hP : va_P D vwCl (mw κ b 1 v) H := hP
  exact hend _ _ _ _ dX1_leadingSchool_19 hP hS
set_option maxHeartbeats 4000000 in
set_option maxRecDepth 100000 in
theorem c_X1_leadingSchool_ok (l : Launch) (D : va_G) (κ : Nat → ClassId) (b : Nat → Nat) (u : Nat) (v : VS) (hv : ok_v v) (hap : ap_ b 4) (hw : 0 < wl_ v (hh_ v) (tt_ v)) : Wr l yX1_leadingSchool cX1_leadingSchool 3 (some .int) 5 115 (Pw D (kt_ κ) (mw κ b u v) [.ref (b 0)]) D (mw κ b 0 v) (ma_ b) (some (.int (nI (lsc_ v (hh_ v) (tt_ v) (vs_n v))))) := by
  refine wr_intro (own := RX1) (by decide +kernel) rfl (Nat.le_of_ble_eq_true rfl) (fun p e s m args below meth c pc ls H locs hx hb hr hlk d h1 h2 => rew_I hx hb hr hlk d h1 h2) ?_
  intro p e s m args below meth c ls Qq hx hb hml hown hts hK hP hS hend hl
  have hl : lv_has ls 3 [(0, .ref (b 0))] := hl
  obtain ⟨hv1, hv2, hv3, hv4, hv5, hv6⟩ := id hv
  have hP : va_P D vwCl (mw κ b u v) s.heap := hP
  have hq1 := hh_le v
  have hq2 := hh_tt v
  have hb2 := wl_b hv (a := hh_ v) (b := tt_ v) (by omega)
  refine lv_aload_n hx hb dX1_leadingSchool_0 rfl (lv_at hl 0 rfl) ?_
  refine lv_iconst (v := nI (0)) hx hb dX1_leadingSchool_1 (by decide) ?_
  refine va_put (D := D) (ci := 1) (v := .int (nI (0))) (ty := .int) (C := RX1) (T := TX1) (N := 8) hx hb hts i_X1 tyX1 tyX1_ok nmX1 hown hK hP (mx_D hap κ _ _ _ _ _ _ _ _) hS 0 rfl rfl 0 (by decide) (hts _ q_f_X1_19) (fun _ h9 => h9) rfl (by decide +kernel) rfl rfl (Nat.le_of_ble_eq_true rfl) dX1_leadingSchool_2 (fun H locs hP _ hS => ?_)
  have hP : va_P D vwCl (mw κ b 0 v) H := hP
  refine lv_aload_n hx hb dX1_leadingSchool_5 rfl (lv_at hl 0 rfl) ?_
  refine rd_V (rest := []) ⟨hx, hb, hml, hown, hts⟩ (c_X1_all l D κ b 0 v hv) g_X1_113 n_X1_all ⟨Nat.le_of_ble_eq_true rfl, Nat.le_of_ble_eq_true rfl⟩ hK hP rfl rfl rfl hl.1 rfl (Nat.le_of_ble_eq_true rfl) dX1_leadingSchool_6 ⟨Nat.zero_le _, Nat.zero_le _⟩ ?_
  refine lv_lconst (v := lN (0)) hx hb dX1_leadingSchool_9 (by decide) ?_
  refine nv_lc_ne (tgt := 20) hx hb dX1_leadingSchool_10 dX1_leadingSchool_11 (by decide) (by omega) (by omega) (fun c_11 => ?_) (fun z => absurd z (by omega))
  refine lv_iconst (v := nI (0)) hx hb dX1_leadingSchool_20 (by decide) ?_
  refine lv_istore_n (lv' := [(1, .int (nI (0))), (0, .ref (b 0))]) hx hb dX1_leadingSchool_21 rfl hl (by decide) rfl (fun ls hl => ?_)
  refine lv_iconst (v := nI (1)) hx hb dX1_leadingSchool_22 (by decide) ?_
  refine lv_istore_n (lv' := [(2, .int (nI (1))), (1, .int (nI (0))), (0, .ref (b 0))]) hx hb dX1_leadingSchool_23 rfl hl (by decide) rfl (fun ls hl => ?_)
  suffices hloop_24 : ∀ (n_24 i : Nat) (ls : Array Slot) (H : Heap) (locs : List Loc), i + n_24 = vs_n v - 1 + 1 → lv_has ls 3 [(0, .ref (b 0)), (1, .int (nI (lsc_ v (hh_ v) (tt_ v) i))), (2, .int (nI (i)))] → va_P D vwCl (mw κ b 0 v) H → va_S (ma_ b) s.heap H locs → (1 ≤ i) → W p l e (rm_ 5 115) s m args below meth c H locs 0 0 Qq (F0 m 24 ls []) from hloop_24 (vs_n v - 1 + 1 - 1) (1) ls H locs (by omega) (lv_cast (k := [(0, .ref (b 0)), (1, .int (nI (0))), (2, .int (nI (1)))]) (lv_sub hl [2, 1, 0] rfl) (lc_cons rfl (lc_cons (congrArg (fun z : Nat => ((1 : Nat), Value.int (nI z))) (show (0 : Nat) = lsc_ v (hh_ v) (tt_ v) 1 from by simp [lsc_])) (lc_cons rfl rfl)))) (hP) hS (by omega)
  intro n_24
  induction n_24 with
  | zero =>
    intro i ls H locs hin_24 hl hP hS hi1
    have hi_24 : i = vs_n v - 1 + 1 := by omega
    have hb1 := sc_b hv i (a := hh_ v) (b := tt_ v) (by omega)
    have hb3 := sc_b hv (lsc_ v (hh_ v) (tt_ v) i) (a := hh_ v) (b := tt_ v) (by omega)
    have hb4 := lsc_lt v (hh_ v) (tt_ v) i (by omega)
    refine lv_iload_n hx hb dX1_leadingSchool_24 rfl (lv_at hl 2 rfl) ?_
    refine lv_aload_n hx hb dX1_leadingSchool_25 rfl (lv_at hl 0 rfl) ?_
    refine va_get (D := D) (ci := 1) (v := .int (nI (vs_n v))) (C := RX1) (T := TX1) (N := 8) hx hb hts i_X1 hown hK hP 0 rfl rfl 2 (by decide) (hts _ q_f_X1_30) (fun _ h9 => h9) rfl dX1_leadingSchool_26 ?_
    refine nv_icmp_ge (tgt := 54) hx hb dX1_leadingSchool_29 (by decide) (by omega) (by omega) (fun c_29 => ?_) (fun z => absurd z (by omega))
    refine lv_iload_n hx hb dX1_leadingSchool_54 rfl (lv_at hl 1 rfl) ?_
    refine nv_topi (congrArg nI (show (lsc_ v (hh_ v) (tt_ v) i : Nat) = lsc_ v (hh_ v) (tt_ v) (vs_n v) from by exact lsc_exit hi_24)) ?_
    exact hend _ _ _ _ dX1_leadingSchool_55 hP hS
  | succ n_24 ih_24 =>
    intro i ls H locs hin_24 hl hP hS hi1
    have hb1 := sc_b hv i (a := hh_ v) (b := tt_ v) (by omega)
    have hb3 := sc_b hv (lsc_ v (hh_ v) (tt_ v) i) (a := hh_ v) (b := tt_ v) (by omega)
    have hb4 := lsc_lt v (hh_ v) (tt_ v) i (by omega)
    refine lv_iload_n hx hb dX1_leadingSchool_24 rfl (lv_at hl 2 rfl) ?_
    refine lv_aload_n hx hb dX1_leadingSchool_25 rfl (lv_at hl 0 rfl) ?_
    refine va_get (D := D) (ci := 1) (v := .int (nI (vs_n v))) (C := RX1) (T := TX1) (N := 8) hx hb hts i_X1 hown hK hP 0 rfl rfl 2 (by decide) (hts _ q_f_X1_30) (fun _ h9 => h9) rfl dX1_leadingSchool_26 ?_
    refine nv_icmp_ge (tgt := 54) hx hb dX1_leadingSchool_29 (by decide) (by omega) (by omega) (fun z => absurd z (by omega)) (fun c_29 => ?_)
    refine lv_aload_n hx hb dX1_leadingSchool_32 rfl (lv_at hl 0 rfl) ?_
    refine lv_iload_n hx hb dX1_leadingSchool_33 rfl (lv_at hl 2 rfl) ?_
    refine rd_V (rest := []) ⟨hx, hb, hml, hown, hts⟩ (c_X1_schoolHere l D κ b 0 v hv (i) (by omega)) g_X1_110 n_X1_schoolHere ⟨Nat.le_of_ble_eq_true rfl, Nat.le_of_ble_eq_true rfl⟩ hK hP rfl rfl rfl hl.1 rfl (Nat.le_of_ble_eq_true rfl) dX1_leadingSchool_34 ⟨Nat.zero_le _, Nat.zero_le _⟩ ?_
    refine lv_aload_n hx hb dX1_leadingSchool_37 rfl (lv_at hl 0 rfl) ?_
    refine lv_iload_n hx hb dX1_leadingSchool_38 rfl (lv_at hl 1 rfl) ?_
    refine rd_V (rest := [.long (lN (sc_ v i (hh_ v) (tt_ v)))]) ⟨hx, hb, hml, hown, hts⟩ (c_X1_schoolHere l D κ b 0 v hv (lsc_ v (hh_ v) (tt_ v) i) (by omega)) g_X1_110 n_X1_schoolHere ⟨Nat.le_of_ble_eq_true rfl, Nat.le_of_ble_eq_true rfl⟩ hK hP rfl rfl rfl hl.1 rfl (Nat.le_of_ble_eq_true rfl) dX1_leadingSchool_39 ⟨Nat.zero_le _, Nat.zero_le _⟩ ?_
    refine nv_lc_le (tgt := 48) hx hb dX1_leadingSchool_42 dX1_leadingSchool_43 (by decide) (by omega) (by omega) (fun c_43 => ?_) (fun c_43 => ?_)
    · refine lv_iinc (v := nI (i + 1)) (lv' := [(2, .int (nI (i + 1))), (0, .ref (b 0)), (1, .int (nI (lsc_ v (hh_ v) (tt_ v) i)))]) hx hb dX1_leadingSchool_48 hl (k := 2) rfl (nI_add _ _) (by decide) rfl (fun ls hl => ?_)
      refine lv_goto (tgt := 24) hx hb dX1_leadingSchool_51 (by decide) ?_
      exact ih_24 (i + 1) ls _ _ (by omega) (lv_cast (k := [(0, .ref (b 0)), (1, .int (nI (lsc_ v (hh_ v) (tt_ v) i))), (2, .int (nI (i + 1)))]) (lv_sub hl [1, 2, 0] rfl) (lc_cons rfl (lc_cons (congrArg (fun z : Nat => ((1 : Nat), Value.int (nI z))) (show (lsc_ v (hh_ v) (tt_ v) i : Nat) = lsc_ v (hh_ v) (tt_ v) (i + 1) from by first | exact (if_pos c_43).symm | exact (if_neg (Nat.not_lt.mpr c_43)).symm)) (lc_cons (congrArg (fun z : Nat => ((2 : Nat), Value.int (nI z))) (show (i + 1 : Nat) = (i + 1) from by first | rfl | omega)) rfl)))) (hP) hS (by omega)
    · refine lv_iload_n hx hb dX1_leadingSchool_46 rfl (lv_at hl 2 rfl) ?_
      refine lv_istore_n (lv' := [(1, .int (nI (i))), (0, .ref (b 0)), (2, .int (nI (i)))]) hx hb dX1_leadingSchool_47 rfl hl (by decide) rfl (fun ls hl => ?_)
      refine lv_iinc (v := nI (i + 1)) (lv' := [(2, .int (nI (i + 1))), (1, .int (nI (i))), (0, .ref (b 0))]) hx hb dX1_leadingSchool_48 hl (k := 2) rfl (nI_add _ _) (by decide) rfl (fun ls hl => ?_)
      refine lv_goto (tgt := 24) hx hb dX1_leadingSchool_51 (by decide) ?_
      exact ih_24 (i + 1) ls _ _ (by omega) (lv_cast (k := [(0, .ref (b 0)), (1, .int (nI (i))), (2, .int (nI (i + 1)))]) (lv_sub hl [2, 1, 0] rfl) (lc_cons rfl (lc_cons (congrArg (fun z : Nat => ((1 : Nat), Value.int (nI z))) (show (i : Nat) = lsc_ v (hh_ v) (tt_ v) (i + 1) from by first | exact (if_pos c_43).symm | exact (if_neg (Nat.not_lt.mpr c_43)).symm)) (lc_cons (congrArg (fun z : Nat => ((2 : Nat), Value.int (nI z))) (show (i + 1 : Nat) = (i + 1) from by first | rfl | omega)) rfl)))) (hP) hS (by omega)
set_option maxHeartbeats 4000000 in
set_option maxRecDepth 100000 in
theorem c_X1_oddsAgainst_x1 (l : Launch) (D : va_G) (κ : Nat → ClassId) (b : Nat → Nat) (u : Nat) (v : VS) (hv : ok_v v) (hap : ap_ b 4) (x : Int32) (y : Int32) (hx0 : ix_ x (vs_c v) = false) : Wr l yX1_oddsAgainst cX1_oddsAgainst 3 (some .long) 4 91 (Pw D (kt_ κ) (mw κ b u v) [.ref (b 0), .int (x), .int (y)]) D (mw κ b 1 v) (ma_ b) (some (.long (lN (0)))) := by
  refine wr_intro (own := RX1) (by decide +kernel) rfl (Nat.le_of_ble_eq_true rfl) (fun p e s m args below meth c pc ls H locs hx hb hr hlk d h1 h2 => rew_L hx hb hr hlk d h1 h2) ?_
  intro p e s m args below meth c ls Qq hx hb hml hown hts hK hP hS hend hl
  have hl : lv_has ls 3 [(0, .ref (b 0)), (1, .int (x)), (2, .int (y))] := hl
  obtain ⟨hv1, hv2, hv3, hv4, hv5, hv6⟩ := id hv
  have hP : va_P D vwCl (mw κ b u v) s.heap := hP
  refine lv_aload_n hx hb dX1_oddsAgainst_0 rfl (lv_at hl 0 rfl) ?_
  refine lv_iconst (v := nI (0)) hx hb dX1_oddsAgainst_1 (by decide) ?_
  refine va_put (D := D) (ci := 1) (v := .int (nI (0))) (ty := .int) (C := RX1) (T := TX1) (N := 8) hx hb hts i_X1 tyX1 tyX1_ok nmX1 hown hK hP (mx_D hap κ _ _ _ _ _ _ _ _) hS 0 rfl rfl 0 (by decide) (hts _ q_f_X1_19) (fun _ h9 => h9) rfl (by decide +kernel) rfl rfl (Nat.le_of_ble_eq_true rfl) dX1_oddsAgainst_2 (fun H locs hP _ hS => ?_)
  have hP : va_P D vwCl (mw κ b 0 v) H := hP
  refine lv_aload_n hx hb dX1_oddsAgainst_5 rfl (lv_at hl 0 rfl) ?_
  refine lv_iload_n hx hb dX1_oddsAgainst_6 rfl (lv_at hl 1 rfl) ?_
  refine rd_V (rest := []) ⟨hx, hb, hml, hown, hts⟩ (c_X1_isCoin l D κ b 0 v hv (x)) g_X1_80 n_X1_isCoin ⟨Nat.le_of_ble_eq_true rfl, Nat.le_of_ble_eq_true rfl⟩ hK hP rfl rfl rfl hl.1 rfl (Nat.le_of_ble_eq_true rfl) dX1_oddsAgainst_7 ⟨Nat.zero_le _, Nat.zero_le _⟩ ?_
  refine bv_if_eq (tgt := 21) hx hb dX1_oddsAgainst_10 (by decide) (fun c_10 => ?_) (fun z => absurd z (by simp [hx0]))
  refine lv_aload_n hx hb dX1_oddsAgainst_21 rfl (lv_at hl 0 rfl) ?_
  refine lv_iconst (v := nI (1)) hx hb dX1_oddsAgainst_22 (by decide) ?_
  refine wr_V (rest := []) ⟨hx, hb, hml, hown, hts⟩ (c_X1_fail_ok l D κ b 0 v hv hap (1) (by omega)) g_X1_73 n_X1_fail ⟨Nat.le_of_ble_eq_true rfl, Nat.le_of_ble_eq_true rfl⟩ hK hP rfl rfl rfl hl.1 rfl (Nat.le_of_ble_eq_true rfl) dX1_oddsAgainst_23 ⟨Nat.zero_le _, Nat.zero_le _⟩ hS (fun _ h => h) (fun H locs hP hS _ _ => ?_)
  have hP : va_P D vwCl (mw κ b 1 v) H := hP
  refine nv_i2l hx hb dX1_oddsAgainst_26 (by omega) ?_
  exact hend _ _ _ _ dX1_oddsAgainst_27 hP hS
set_option maxHeartbeats 4000000 in
set_option maxRecDepth 100000 in
theorem c_X1_oddsAgainst_x2 (l : Launch) (D : va_G) (κ : Nat → ClassId) (b : Nat → Nat) (u : Nat) (v : VS) (hv : ok_v v) (hap : ap_ b 4) (c_ : Nat) (y : Int32) (hc : c_ < vs_c v) (hx0 : ix_ y (vs_c v) = false) : Wr l yX1_oddsAgainst cX1_oddsAgainst 3 (some .long) 4 91 (Pw D (kt_ κ) (mw κ b u v) [.ref (b 0), .int (nI (c_)), .int (y)]) D (mw κ b 1 v) (ma_ b) (some (.long (lN (0)))) := by
  refine wr_intro (own := RX1) (by decide +kernel) rfl (Nat.le_of_ble_eq_true rfl) (fun p e s m args below meth c pc ls H locs hx hb hr hlk d h1 h2 => rew_L hx hb hr hlk d h1 h2) ?_
  intro p e s m args below meth c ls Qq hx hb hml hown hts hK hP hS hend hl
  have hl : lv_has ls 3 [(0, .ref (b 0)), (1, .int (nI (c_))), (2, .int (y))] := hl
  obtain ⟨hv1, hv2, hv3, hv4, hv5, hv6⟩ := id hv
  have hP : va_P D vwCl (mw κ b u v) s.heap := hP
  refine lv_aload_n hx hb dX1_oddsAgainst_0 rfl (lv_at hl 0 rfl) ?_
  refine lv_iconst (v := nI (0)) hx hb dX1_oddsAgainst_1 (by decide) ?_
  refine va_put (D := D) (ci := 1) (v := .int (nI (0))) (ty := .int) (C := RX1) (T := TX1) (N := 8) hx hb hts i_X1 tyX1 tyX1_ok nmX1 hown hK hP (mx_D hap κ _ _ _ _ _ _ _ _) hS 0 rfl rfl 0 (by decide) (hts _ q_f_X1_19) (fun _ h9 => h9) rfl (by decide +kernel) rfl rfl (Nat.le_of_ble_eq_true rfl) dX1_oddsAgainst_2 (fun H locs hP _ hS => ?_)
  have hP : va_P D vwCl (mw κ b 0 v) H := hP
  refine lv_aload_n hx hb dX1_oddsAgainst_5 rfl (lv_at hl 0 rfl) ?_
  refine lv_iload_n hx hb dX1_oddsAgainst_6 rfl (lv_at hl 1 rfl) ?_
  refine rd_V (rest := []) ⟨hx, hb, hml, hown, hts⟩ (c_X1_isCoin l D κ b 0 v hv (nI (c_))) g_X1_80 n_X1_isCoin ⟨Nat.le_of_ble_eq_true rfl, Nat.le_of_ble_eq_true rfl⟩ hK hP rfl rfl rfl hl.1 rfl (Nat.le_of_ble_eq_true rfl) dX1_oddsAgainst_7 ⟨Nat.zero_le _, Nat.zero_le _⟩ ?_
  refine nv_topi (congrArg bI (show (ix_ (nI (c_)) (vs_c v) : Bool) = true from by exact ix_nI (j := c_) (by omega) (by omega))) ?_
  refine bv_if_eq (tgt := 21) hx hb dX1_oddsAgainst_10 (by decide) (fun z => absurd z (by simp)) (fun c_10 => ?_)
  refine lv_aload_n hx hb dX1_oddsAgainst_13 rfl (lv_at hl 0 rfl) ?_
  refine lv_iload_n hx hb dX1_oddsAgainst_14 rfl (lv_at hl 2 rfl) ?_
  refine rd_V (rest := []) ⟨hx, hb, hml, hown, hts⟩ (c_X1_isCoin l D κ b 0 v hv (y)) g_X1_80 n_X1_isCoin ⟨Nat.le_of_ble_eq_true rfl, Nat.le_of_ble_eq_true rfl⟩ hK hP rfl rfl rfl hl.1 rfl (Nat.le_of_ble_eq_true rfl) dX1_oddsAgainst_15 ⟨Nat.zero_le _, Nat.zero_le _⟩ ?_
  refine bv_if_ne (tgt := 28) hx hb dX1_oddsAgainst_18 (by decide) (fun z => absurd z (by simp [hx0])) (fun c_18 => ?_)
  refine lv_aload_n hx hb dX1_oddsAgainst_21 rfl (lv_at hl 0 rfl) ?_
  refine lv_iconst (v := nI (1)) hx hb dX1_oddsAgainst_22 (by decide) ?_
  refine wr_V (rest := []) ⟨hx, hb, hml, hown, hts⟩ (c_X1_fail_ok l D κ b 0 v hv hap (1) (by omega)) g_X1_73 n_X1_fail ⟨Nat.le_of_ble_eq_true rfl, Nat.le_of_ble_eq_true rfl⟩ hK hP rfl rfl rfl hl.1 rfl (Nat.le_of_ble_eq_true rfl) dX1_oddsAgainst_23 ⟨Nat.zero_le _, Nat.zero_le _⟩ hS (fun _ h => h) (fun H locs hP hS _ _ => ?_)
  have hP : va_P D vwCl (mw κ b 1 v) H := hP
  refine nv_i2l hx hb dX1_oddsAgainst_26 (by omega) ?_
  exact hend _ _ _ _ dX1_oddsAgainst_27 hP hS
set_option maxHeartbeats 4000000 in
set_option maxRecDepth 100000 in
theorem c_X1_oddsAgainst_x3 (l : Launch) (D : va_G) (κ : Nat → ClassId) (b : Nat → Nat) (u : Nat) (v : VS) (hv : ok_v v) (hap : ap_ b 4) (c_ : Nat) (d_ : Nat) (hc : c_ < vs_c v) (hd : d_ < vs_c v) (hz : wt_ v d_ (hh_ v) (tt_ v) = 0) : Wr l yX1_oddsAgainst cX1_oddsAgainst 3 (some .long) 4 91 (Pw D (kt_ κ) (mw κ b u v) [.ref (b 0), .int (nI (c_)), .int (nI (d_))]) D (mw κ b 2 v) (ma_ b) (some (.long (lN (0)))) := by
  refine wr_intro (own := RX1) (by decide +kernel) rfl (Nat.le_of_ble_eq_true rfl) (fun p e s m args below meth c pc ls H locs hx hb hr hlk d h1 h2 => rew_L hx hb hr hlk d h1 h2) ?_
  intro p e s m args below meth c ls Qq hx hb hml hown hts hK hP hS hend hl
  have hl : lv_has ls 3 [(0, .ref (b 0)), (1, .int (nI (c_))), (2, .int (nI (d_)))] := hl
  obtain ⟨hv1, hv2, hv3, hv4, hv5, hv6⟩ := id hv
  have hP : va_P D vwCl (mw κ b u v) s.heap := hP
  have hq1 := hh_le v
  have hq2 := hh_tt v
  have hb3 := wt_b hv d_ (a := hh_ v) (b := tt_ v) (by omega)
  refine lv_aload_n hx hb dX1_oddsAgainst_0 rfl (lv_at hl 0 rfl) ?_
  refine lv_iconst (v := nI (0)) hx hb dX1_oddsAgainst_1 (by decide) ?_
  refine va_put (D := D) (ci := 1) (v := .int (nI (0))) (ty := .int) (C := RX1) (T := TX1) (N := 8) hx hb hts i_X1 tyX1 tyX1_ok nmX1 hown hK hP (mx_D hap κ _ _ _ _ _ _ _ _) hS 0 rfl rfl 0 (by decide) (hts _ q_f_X1_19) (fun _ h9 => h9) rfl (by decide +kernel) rfl rfl (Nat.le_of_ble_eq_true rfl) dX1_oddsAgainst_2 (fun H locs hP _ hS => ?_)
  have hP : va_P D vwCl (mw κ b 0 v) H := hP
  refine lv_aload_n hx hb dX1_oddsAgainst_5 rfl (lv_at hl 0 rfl) ?_
  refine lv_iload_n hx hb dX1_oddsAgainst_6 rfl (lv_at hl 1 rfl) ?_
  refine rd_V (rest := []) ⟨hx, hb, hml, hown, hts⟩ (c_X1_isCoin l D κ b 0 v hv (nI (c_))) g_X1_80 n_X1_isCoin ⟨Nat.le_of_ble_eq_true rfl, Nat.le_of_ble_eq_true rfl⟩ hK hP rfl rfl rfl hl.1 rfl (Nat.le_of_ble_eq_true rfl) dX1_oddsAgainst_7 ⟨Nat.zero_le _, Nat.zero_le _⟩ ?_
  refine nv_topi (congrArg bI (show (ix_ (nI (c_)) (vs_c v) : Bool) = true from by exact ix_nI (j := c_) (by omega) (by omega))) ?_
  refine bv_if_eq (tgt := 21) hx hb dX1_oddsAgainst_10 (by decide) (fun z => absurd z (by simp)) (fun c_10 => ?_)
  refine lv_aload_n hx hb dX1_oddsAgainst_13 rfl (lv_at hl 0 rfl) ?_
  refine lv_iload_n hx hb dX1_oddsAgainst_14 rfl (lv_at hl 2 rfl) ?_
  refine rd_V (rest := []) ⟨hx, hb, hml, hown, hts⟩ (c_X1_isCoin l D κ b 0 v hv (nI (d_))) g_X1_80 n_X1_isCoin ⟨Nat.le_of_ble_eq_true rfl, Nat.le_of_ble_eq_true rfl⟩ hK hP rfl rfl rfl hl.1 rfl (Nat.le_of_ble_eq_true rfl) dX1_oddsAgainst_15 ⟨Nat.zero_le _, Nat.zero_le _⟩ ?_
  refine nv_topi (congrArg bI (show (ix_ (nI (d_)) (vs_c v) : Bool) = true from by exact ix_nI (j := d_) (by omega) (by omega))) ?_
  refine bv_if_ne (tgt := 28) hx hb dX1_oddsAgainst_18 (by decide) (fun c_18 => ?_) (fun z => absurd z (by simp))
  refine lv_aload_n hx hb dX1_oddsAgainst_28 rfl (lv_at hl 0 rfl) ?_
  refine lv_iload_n hx hb dX1_oddsAgainst_29 rfl (lv_at hl 2 rfl) ?_
  refine rd_V (rest := []) ⟨hx, hb, hml, hown, hts⟩ (c_X1_here l D κ b 0 v hv (d_) (by omega)) g_X1_106 n_X1_here ⟨Nat.le_of_ble_eq_true rfl, Nat.le_of_ble_eq_true rfl⟩ hK hP rfl rfl rfl hl.1 rfl (Nat.le_of_ble_eq_true rfl) dX1_oddsAgainst_30 ⟨Nat.zero_le _, Nat.zero_le _⟩ ?_
  refine lv_lconst (v := lN (0)) hx hb dX1_oddsAgainst_33 (by decide) ?_
  refine nv_lc_ne (tgt := 47) hx hb dX1_oddsAgainst_34 dX1_oddsAgainst_35 (by decide) (by omega) (by omega) (fun z => absurd z (by omega)) (fun c_35 => ?_)
  refine lv_aload_n hx hb dX1_oddsAgainst_38 rfl (lv_at hl 0 rfl) ?_
  refine lv_iconst (v := nI (2)) hx hb dX1_oddsAgainst_39 (by decide) ?_
  refine wr_V (rest := []) ⟨hx, hb, hml, hown, hts⟩ (c_X1_fail_ok l D κ b 0 v hv hap (2) (by omega)) g_X1_73 n_X1_fail ⟨Nat.le_of_ble_eq_true rfl, Nat.le_of_ble_eq_true rfl⟩ hK hP rfl rfl rfl hl.1 rfl (Nat.le_of_ble_eq_true rfl) dX1_oddsAgainst_40 ⟨Nat.zero_le _, Nat.zero_le _⟩ hS (fun _ h => h) (fun H locs hP hS _ _ => ?_)
  have hP : va_P D vwCl (mw κ b 2 v) H := hP
  refine nv_i2l hx hb dX1_oddsAgainst_43 (by omega) ?_
  refine lv_goto (tgt := 58) hx hb dX1_oddsAgainst_44 (by decide) ?_
  exact hend _ _ _ _ dX1_oddsAgainst_58 hP hS
set_option maxHeartbeats 4000000 in
set_option maxRecDepth 100000 in
theorem c_X1_oddsAgainst_ok (l : Launch) (D : va_G) (κ : Nat → ClassId) (b : Nat → Nat) (u : Nat) (v : VS) (hv : ok_v v) (hap : ap_ b 4) (c_ : Nat) (d_ : Nat) (hc : c_ < vs_c v) (hd : d_ < vs_c v) (hz : 0 < wt_ v d_ (hh_ v) (tt_ v)) : Wr l yX1_oddsAgainst cX1_oddsAgainst 3 (some .long) 4 91 (Pw D (kt_ κ) (mw κ b u v) [.ref (b 0), .int (nI (c_)), .int (nI (d_))]) D (mw κ b 0 v) (ma_ b) (some (.long (lN (wt_ v c_ (hh_ v) (tt_ v) / wt_ v d_ (hh_ v) (tt_ v))))) := by
  refine wr_intro (own := RX1) (by decide +kernel) rfl (Nat.le_of_ble_eq_true rfl) (fun p e s m args below meth c pc ls H locs hx hb hr hlk d h1 h2 => rew_L hx hb hr hlk d h1 h2) ?_
  intro p e s m args below meth c ls Qq hx hb hml hown hts hK hP hS hend hl
  have hl : lv_has ls 3 [(0, .ref (b 0)), (1, .int (nI (c_))), (2, .int (nI (d_)))] := hl
  obtain ⟨hv1, hv2, hv3, hv4, hv5, hv6⟩ := id hv
  have hP : va_P D vwCl (mw κ b u v) s.heap := hP
  have hq1 := hh_le v
  have hq2 := hh_tt v
  have hb1 := wt_b hv c_ (a := hh_ v) (b := tt_ v) (by omega)
  have hb3 := wt_b hv d_ (a := hh_ v) (b := tt_ v) (by omega)
  refine lv_aload_n hx hb dX1_oddsAgainst_0 rfl (lv_at hl 0 rfl) ?_
  refine lv_iconst (v := nI (0)) hx hb dX1_oddsAgainst_1 (by decide) ?_
  refine va_put (D := D) (ci := 1) (v := .int (nI (0))) (ty := .int) (C := RX1) (T := TX1) (N := 8) hx hb hts i_X1 tyX1 tyX1_ok nmX1 hown hK hP (mx_D hap κ _ _ _ _ _ _ _ _) hS 0 rfl rfl 0 (by decide) (hts _ q_f_X1_19) (fun _ h9 => h9) rfl (by decide +kernel) rfl rfl (Nat.le_of_ble_eq_true rfl) dX1_oddsAgainst_2 (fun H locs hP _ hS => ?_)
  have hP : va_P D vwCl (mw κ b 0 v) H := hP
  refine lv_aload_n hx hb dX1_oddsAgainst_5 rfl (lv_at hl 0 rfl) ?_
  refine lv_iload_n hx hb dX1_oddsAgainst_6 rfl (lv_at hl 1 rfl) ?_
  refine rd_V (rest := []) ⟨hx, hb, hml, hown, hts⟩ (c_X1_isCoin l D κ b 0 v hv (nI (c_))) g_X1_80 n_X1_isCoin ⟨Nat.le_of_ble_eq_true rfl, Nat.le_of_ble_eq_true rfl⟩ hK hP rfl rfl rfl hl.1 rfl (Nat.le_of_ble_eq_true rfl) dX1_oddsAgainst_7 ⟨Nat.zero_le _, Nat.zero_le _⟩ ?_
  refine nv_topi (congrArg bI (show (ix_ (nI (c_)) (vs_c v) : Bool) = true from by exact ix_nI (j := c_) (by omega) (by omega))) ?_
  refine bv_if_eq (tgt := 21) hx hb dX1_oddsAgainst_10 (by decide) (fun z => absurd z (by simp)) (fun c_10 => ?_)
  refine lv_aload_n hx hb dX1_oddsAgainst_13 rfl (lv_at hl 0 rfl) ?_
  refine lv_iload_n hx hb dX1_oddsAgainst_14 rfl (lv_at hl 2 rfl) ?_
  refine rd_V (rest := []) ⟨hx, hb, hml, hown, hts⟩ (c_X1_isCoin l D κ b 0 v hv (nI (d_))) g_X1_80 n_X1_isCoin ⟨Nat.le_of_ble_eq_true rfl, Nat.le_of_ble_eq_true rfl⟩ hK hP rfl rfl rfl hl.1 rfl (Nat.le_of_ble_eq_true rfl) dX1_oddsAgainst_15 ⟨Nat.zero_le _, Nat.zero_le _⟩ ?_
  refine nv_topi (congrArg bI (show (ix_ (nI (d_)) (vs_c v) : Bool) = true from by exact ix_nI (j := d_) (by omega) (by omega))) ?_
  refine bv_if_ne (tgt := 28) hx hb dX1_oddsAgainst_18 (by decide) (fun c_18 => ?_) (fun z => absurd z (by simp))
  refine lv_aload_n hx hb dX1_oddsAgainst_28 rfl (lv_at hl 0 rfl) ?_
  refine lv_iload_n hx hb dX1_oddsAgainst_29 rfl (lv_at hl 2 rfl) ?_
  refine rd_V (rest := []) ⟨hx, hb, hml, hown, hts⟩ (c_X1_here l D κ b 0 v hv (d_) (by omega)) g_X1_106 n_X1_here ⟨Nat.le_of_ble_eq_true rfl, Nat.le_of_ble_eq_true rfl⟩ hK hP rfl rfl rfl hl.1 rfl (Nat.le_of_ble_eq_true rfl) dX1_oddsAgainst_30 ⟨Nat.zero_le _, Nat.zero_le _⟩ ?_
  refine lv_lconst (v := lN (0)) hx hb dX1_oddsAgainst_33 (by decide) ?_
  refine nv_lc_ne (tgt := 47) hx hb dX1_oddsAgainst_34 dX1_oddsAgainst_35 (by decide) (by omega) (by omega) (fun c_35 => ?_) (fun z => absurd z (by omega))
  refine lv_aload_n hx hb dX1_oddsAgainst_47 rfl (lv_at hl 0 rfl) ?_
  refine lv_iload_n hx hb dX1_oddsAgainst_48 rfl (lv_at hl 1 rfl) ?_
  refine rd_V (rest := []) ⟨hx, hb, hml, hown, hts⟩ (c_X1_here l D κ b 0 v hv (c_) (by omega)) g_X1_106 n_X1_here ⟨Nat.le_of_ble_eq_true rfl, Nat.le_of_ble_eq_true rfl⟩ hK hP rfl rfl rfl hl.1 rfl (Nat.le_of_ble_eq_true rfl) dX1_oddsAgainst_49 ⟨Nat.zero_le _, Nat.zero_le _⟩ ?_
  refine lv_aload_n hx hb dX1_oddsAgainst_52 rfl (lv_at hl 0 rfl) ?_
  refine lv_iload_n hx hb dX1_oddsAgainst_53 rfl (lv_at hl 2 rfl) ?_
  refine rd_V (rest := [.long (lN (wt_ v c_ (hh_ v) (tt_ v)))]) ⟨hx, hb, hml, hown, hts⟩ (c_X1_here l D κ b 0 v hv (d_) (by omega)) g_X1_106 n_X1_here ⟨Nat.le_of_ble_eq_true rfl, Nat.le_of_ble_eq_true rfl⟩ hK hP rfl rfl rfl hl.1 rfl (Nat.le_of_ble_eq_true rfl) dX1_oddsAgainst_54 ⟨Nat.zero_le _, Nat.zero_le _⟩ ?_
  refine nv_ldiv hx hb dX1_oddsAgainst_57 (by omega) (by omega) (by omega) rfl ?_
  refine nv_topl (congrArg lN (show ((wt_ v c_ (hh_ v) (tt_ v)) / (wt_ v d_ (hh_ v) (tt_ v)) : Nat) = wt_ v c_ (hh_ v) (tt_ v) / wt_ v d_ (hh_ v) (tt_ v) from by rfl)) ?_
  exact hend _ _ _ _ dX1_oddsAgainst_58 hP hS
set_option maxHeartbeats 4000000 in
set_option maxRecDepth 100000 in
theorem c_X1_greatestSurprise_ok (l : Launch) (D : va_G) (κ : Nat → ClassId) (b : Nat → Nat) (u : Nat) (v : VS) (hv : ok_v v) (hap : ap_ b 4) (hpp : pp_ v) : Wr l yX1_greatestSurprise cX1_greatestSurprise 3 (some .int) 7 168 (Pw D (kt_ κ) (mw κ b u v) [.ref (b 0)]) D (mw κ b 0 v) (ma_ b) (some (.int (fS_ v (vs_t v)))) := by
  refine wr_intro (own := RX1) (by decide +kernel) rfl (Nat.le_of_ble_eq_true rfl) (fun p e s m args below meth c pc ls H locs hx hb hr hlk d h1 h2 => rew_I hx hb hr hlk d h1 h2) ?_
  intro p e s m args below meth c ls Qq hx hb hml hown hts hK hP hS hend hl
  have hl : lv_has ls 3 [(0, .ref (b 0))] := hl
  obtain ⟨hv1, hv2, hv3, hv4, hv5, hv6⟩ := id hv
  have hP : va_P D vwCl (mw κ b u v) s.heap := hP
  refine lv_aload_n hx hb dX1_greatestSurprise_0 rfl (lv_at hl 0 rfl) ?_
  refine lv_iconst (v := nI (0)) hx hb dX1_greatestSurprise_1 (by decide) ?_
  refine va_put (D := D) (ci := 1) (v := .int (nI (0))) (ty := .int) (C := RX1) (T := TX1) (N := 8) hx hb hts i_X1 tyX1 tyX1_ok nmX1 hown hK hP (mx_D hap κ _ _ _ _ _ _ _ _) hS 0 rfl rfl 0 (by decide) (hts _ q_f_X1_19) (fun _ h9 => h9) rfl (by decide +kernel) rfl rfl (Nat.le_of_ble_eq_true rfl) dX1_greatestSurprise_2 (fun H locs hP _ hS => ?_)
  have hP : va_P D vwCl (mw κ b 0 v) H := hP
  refine lv_iconst (v := (-1)) hx hb dX1_greatestSurprise_5 (by decide) ?_
  refine lv_istore_n (lv' := [(1, .int (-1)), (0, .ref (b 0))]) hx hb dX1_greatestSurprise_6 rfl hl (by decide) rfl (fun ls hl => ?_)
  refine lv_iconst (v := nI (0)) hx hb dX1_greatestSurprise_7 (by decide) ?_
  refine lv_istore_n (lv' := [(2, .int (nI (0))), (1, .int (-1)), (0, .ref (b 0))]) hx hb dX1_greatestSurprise_8 rfl hl (by decide) rfl (fun ls hl => ?_)
  suffices hloop_9 : ∀ (n_9 i : Nat) (ls : Array Slot) (H : Heap) (locs : List Loc), i + n_9 = vs_t v → lv_has ls 3 [(0, .ref (b 0)), (1, .int (fS_ v i)), (2, .int (nI (i)))] → va_P D vwCl (mw κ b 0 v) H → va_S (ma_ b) s.heap H locs → W p l e (rm_ 7 168) s m args below meth c H locs 0 0 Qq (F0 m 9 ls []) from hloop_9 (vs_t v - 0) (0) ls H locs (by omega) (lv_cast (k := [(0, .ref (b 0)), (1, .int (-1)), (2, .int (nI (0)))]) (lv_sub hl [2, 1, 0] rfl) (lc_cons rfl (lc_cons (congrArg (fun z : Int32 => ((1 : Nat), Value.int z)) (show (-1 : Int32) = fS_ v 0 from by rfl)) (lc_cons rfl rfl)))) (hP) hS
  intro n_9
  induction n_9 with
  | zero =>
    intro i ls H locs hin_9 hl hP hS
    have hi_9 : i = vs_t v := by omega
    have g1 := gs_le v i
    have g2 := sa_le v i
    have g3 := sa_le v (gs_ v i)
    refine lv_iload_n hx hb dX1_greatestSurprise_9 rfl (lv_at hl 2 rfl) ?_
    refine lv_aload_n hx hb dX1_greatestSurprise_10 rfl (lv_at hl 0 rfl) ?_
    refine va_get (D := D) (ci := 1) (v := .int (nI (vs_t v))) (C := RX1) (T := TX1) (N := 8) hx hb hts i_X1 hown hK hP 0 rfl rfl 3 (by decide) (hts _ q_f_X1_33) (fun _ h9 => h9) rfl dX1_greatestSurprise_11 ?_
    refine nv_icmp_ge (tgt := 43) hx hb dX1_greatestSurprise_14 (by decide) (by omega) (by omega) (fun c_14 => ?_) (fun z => absurd z (by omega))
    refine lv_iload_n hx hb dX1_greatestSurprise_43 rfl (lv_at hl 1 rfl) ?_
    refine nv_topi (show (fS_ v i : Int32) = fS_ v (vs_t v) from by rw [hi_9]) ?_
    exact hend _ _ _ _ dX1_greatestSurprise_44 hP hS
  | succ n_9 ih_9 =>
    intro i ls H locs hin_9 hl hP hS
    have g1 := gs_le v i
    have g2 := sa_le v i
    have g3 := sa_le v (gs_ v i)
    refine lv_iload_n hx hb dX1_greatestSurprise_9 rfl (lv_at hl 2 rfl) ?_
    refine lv_aload_n hx hb dX1_greatestSurprise_10 rfl (lv_at hl 0 rfl) ?_
    refine va_get (D := D) (ci := 1) (v := .int (nI (vs_t v))) (C := RX1) (T := TX1) (N := 8) hx hb hts i_X1 hown hK hP 0 rfl rfl 3 (by decide) (hts _ q_f_X1_33) (fun _ h9 => h9) rfl dX1_greatestSurprise_11 ?_
    refine nv_icmp_ge (tgt := 43) hx hb dX1_greatestSurprise_14 (by decide) (by omega) (by omega) (fun z => absurd z (by omega)) (fun c_14 => ?_)
    refine lv_iload_n hx hb dX1_greatestSurprise_17 rfl (lv_at hl 1 rfl) ?_
    refine lv_iconst (v := (-1)) hx hb dX1_greatestSurprise_18 (by decide) ?_
    refine lv_icmp_eq (tgt := 35) hx hb dX1_greatestSurprise_19 (by decide) (fun c_19 => ?_) (fun c_19 => ?_)
    · refine lv_iload_n hx hb dX1_greatestSurprise_35 rfl (lv_at hl 2 rfl) ?_
      refine lv_istore_n (lv' := [(1, .int (nI (i))), (0, .ref (b 0)), (2, .int (nI (i)))]) hx hb dX1_greatestSurprise_36 rfl hl (by decide) rfl (fun ls hl => ?_)
      refine lv_iinc (v := nI (i + 1)) (lv' := [(2, .int (nI (i + 1))), (1, .int (nI (i))), (0, .ref (b 0))]) hx hb dX1_greatestSurprise_37 hl (k := 2) rfl (nI_add _ _) (by decide) rfl (fun ls hl => ?_)
      refine lv_goto (tgt := 9) hx hb dX1_greatestSurprise_40 (by decide) ?_
      exact ih_9 (i + 1) ls _ _ (by omega) (lv_cast (k := [(0, .ref (b 0)), (1, .int (nI (i))), (2, .int (nI (i + 1)))]) (lv_sub hl [2, 1, 0] rfl) (lc_cons rfl (lc_cons (congrArg (fun z : Int32 => ((1 : Nat), Value.int z)) (show (nI (i) : Int32) = fS_ v (i + 1) from by first | exact fS_1 c_19 (by omega) | exact fS_2 c_32 | exact fS_3 c_19 c_32)) (lc_cons (congrArg (fun z : Nat => ((2 : Nat), Value.int (nI z))) (show (i + 1 : Nat) = (i + 1) from by first | rfl | omega)) rfl)))) (hP) hS
    · refine lv_aload_n hx hb dX1_greatestSurprise_22 rfl (lv_at hl 0 rfl) ?_
      refine lv_iload_n hx hb dX1_greatestSurprise_23 rfl (lv_at hl 2 rfl) ?_
      refine rd_V (rest := []) ⟨hx, hb, hml, hown, hts⟩ (c_X1_surprise_ l D κ b 0 v hv (i) (by omega) (hpp i (by omega))) g_X1_128 n_X1_surprise_ ⟨Nat.le_of_ble_eq_true rfl, Nat.le_of_ble_eq_true rfl⟩ hK hP rfl rfl rfl hl.1 rfl (Nat.le_of_ble_eq_true rfl) dX1_greatestSurprise_24 ⟨Nat.zero_le _, Nat.zero_le _⟩ ?_
      refine lv_aload_n hx hb dX1_greatestSurprise_27 rfl (lv_at hl 0 rfl) ?_
      refine lv_iload_n hx hb dX1_greatestSurprise_28 rfl (lv_at hl 1 rfl) ?_
      refine nv_topi (show (fS_ v i : Int32) = nI (gs_ v i) from by exact fS_nI c_19) ?_
      refine rd_V (rest := [.int (nI (sa_ v i))]) ⟨hx, hb, hml, hown, hts⟩ (c_X1_surprise_ l D κ b 0 v hv (gs_ v i) (by have := gs_lt v i (fS_i c_19); omega) (hpp _ (by have := gs_lt v i (fS_i c_19); omega))) g_X1_128 n_X1_surprise_ ⟨Nat.le_of_ble_eq_true rfl, Nat.le_of_ble_eq_true rfl⟩ hK hP rfl rfl rfl hl.1 rfl (Nat.le_of_ble_eq_true rfl) dX1_greatestSurprise_29 ⟨Nat.zero_le _, Nat.zero_le _⟩ ?_
      refine nv_icmp_le (tgt := 37) hx hb dX1_greatestSurprise_32 (by decide) (by omega) (by omega) (fun c_32 => ?_) (fun c_32 => ?_)
      · refine lv_iinc (v := nI (i + 1)) (lv' := [(2, .int (nI (i + 1))), (0, .ref (b 0)), (1, .int (fS_ v i))]) hx hb dX1_greatestSurprise_37 hl (k := 2) rfl (nI_add _ _) (by decide) rfl (fun ls hl => ?_)
        refine lv_goto (tgt := 9) hx hb dX1_greatestSurprise_40 (by decide) ?_
        exact ih_9 (i + 1) ls _ _ (by omega) (lv_cast (k := [(0, .ref (b 0)), (1, .int (fS_ v i)), (2, .int (nI (i + 1)))]) (lv_sub hl [1, 2, 0] rfl) (lc_cons rfl (lc_cons (congrArg (fun z : Int32 => ((1 : Nat), Value.int z)) (show (fS_ v i : Int32) = fS_ v (i + 1) from by first | exact fS_1 c_19 (by omega) | exact fS_2 c_32 | exact fS_3 c_19 c_32)) (lc_cons (congrArg (fun z : Nat => ((2 : Nat), Value.int (nI z))) (show (i + 1 : Nat) = (i + 1) from by first | rfl | omega)) rfl)))) (hP) hS
      · refine lv_iload_n hx hb dX1_greatestSurprise_35 rfl (lv_at hl 2 rfl) ?_
        refine lv_istore_n (lv' := [(1, .int (nI (i))), (0, .ref (b 0)), (2, .int (nI (i)))]) hx hb dX1_greatestSurprise_36 rfl hl (by decide) rfl (fun ls hl => ?_)
        refine lv_iinc (v := nI (i + 1)) (lv' := [(2, .int (nI (i + 1))), (1, .int (nI (i))), (0, .ref (b 0))]) hx hb dX1_greatestSurprise_37 hl (k := 2) rfl (nI_add _ _) (by decide) rfl (fun ls hl => ?_)
        refine lv_goto (tgt := 9) hx hb dX1_greatestSurprise_40 (by decide) ?_
        exact ih_9 (i + 1) ls _ _ (by omega) (lv_cast (k := [(0, .ref (b 0)), (1, .int (nI (i))), (2, .int (nI (i + 1)))]) (lv_sub hl [2, 1, 0] rfl) (lc_cons rfl (lc_cons (congrArg (fun z : Int32 => ((1 : Nat), Value.int z)) (show (nI (i) : Int32) = fS_ v (i + 1) from by first | exact fS_1 c_19 (by omega) | exact fS_2 c_32 | exact fS_3 c_19 c_32)) (lc_cons (congrArg (fun z : Nat => ((2 : Nat), Value.int (nI z))) (show (i + 1 : Nat) = (i + 1) from by first | rfl | omega)) rfl)))) (hP) hS
set_option maxHeartbeats 4000000 in
set_option maxRecDepth 100000 in
theorem c_X1_headsPercent_x1 (l : Launch) (D : va_G) (κ : Nat → ClassId) (b : Nat → Nat) (u : Nat) (v : VS) (hv : ok_v v) (hap : ap_ b 4) (hw0 : wl_ v (hh_ v) (tt_ v) = 0) : Wr l yX1_headsPercent cX1_headsPercent 3 (some .int) 5 118 (Pw D (kt_ κ) (mw κ b u v) [.ref (b 0)]) D (mw κ b 1 v) (ma_ b) (some (.int (nI (0)))) := by
  refine wr_intro (own := RX1) (by decide +kernel) rfl (Nat.le_of_ble_eq_true rfl) (fun p e s m args below meth c pc ls H locs hx hb hr hlk d h1 h2 => rew_I hx hb hr hlk d h1 h2) ?_
  intro p e s m args below meth c ls Qq hx hb hml hown hts hK hP hS hend hl
  have hl : lv_has ls 3 [(0, .ref (b 0))] := hl
  obtain ⟨hv1, hv2, hv3, hv4, hv5, hv6⟩ := id hv
  have hP : va_P D vwCl (mw κ b u v) s.heap := hP
  have hq1 := hh_le v
  have hq2 := hh_tt v
  have hb2 := wl_b hv (a := hh_ v) (b := tt_ v) (by omega)
  refine lv_aload_n hx hb dX1_headsPercent_0 rfl (lv_at hl 0 rfl) ?_
  refine lv_iconst (v := nI (0)) hx hb dX1_headsPercent_1 (by decide) ?_
  refine va_put (D := D) (ci := 1) (v := .int (nI (0))) (ty := .int) (C := RX1) (T := TX1) (N := 8) hx hb hts i_X1 tyX1 tyX1_ok nmX1 hown hK hP (mx_D hap κ _ _ _ _ _ _ _ _) hS 0 rfl rfl 0 (by decide) (hts _ q_f_X1_19) (fun _ h9 => h9) rfl (by decide +kernel) rfl rfl (Nat.le_of_ble_eq_true rfl) dX1_headsPercent_2 (fun H locs hP _ hS => ?_)
  have hP : va_P D vwCl (mw κ b 0 v) H := hP
  refine lv_aload_n hx hb dX1_headsPercent_5 rfl (lv_at hl 0 rfl) ?_
  refine rd_V (rest := []) ⟨hx, hb, hml, hown, hts⟩ (c_X1_all l D κ b 0 v hv) g_X1_113 n_X1_all ⟨Nat.le_of_ble_eq_true rfl, Nat.le_of_ble_eq_true rfl⟩ hK hP rfl rfl rfl hl.1 rfl (Nat.le_of_ble_eq_true rfl) dX1_headsPercent_6 ⟨Nat.zero_le _, Nat.zero_le _⟩ ?_
  refine lv_lstore_n (lv' := [(1, .long (lN (wl_ v (hh_ v) (tt_ v)))), (0, .ref (b 0))]) hx hb dX1_headsPercent_9 rfl hl (by decide) rfl (fun ls hl => ?_)
  refine lv_lload_n hx hb dX1_headsPercent_10 rfl (lv_at hl 0 rfl) ?_
  refine lv_lconst (v := lN (0)) hx hb dX1_headsPercent_11 (by decide) ?_
  refine nv_lc_ne (tgt := 22) hx hb dX1_headsPercent_12 dX1_headsPercent_13 (by decide) (by omega) (by omega) (fun z => absurd z (by omega)) (fun c_13 => ?_)
  refine lv_aload_n hx hb dX1_headsPercent_16 rfl (lv_at hl 1 rfl) ?_
  refine lv_iconst (v := nI (1)) hx hb dX1_headsPercent_17 (by decide) ?_
  refine wr_V (rest := []) ⟨hx, hb, hml, hown, hts⟩ (c_X1_fail_ok l D κ b 0 v hv hap (1) (by omega)) g_X1_73 n_X1_fail ⟨Nat.le_of_ble_eq_true rfl, Nat.le_of_ble_eq_true rfl⟩ hK hP rfl rfl rfl hl.1 rfl (Nat.le_of_ble_eq_true rfl) dX1_headsPercent_18 ⟨Nat.zero_le _, Nat.zero_le _⟩ hS (fun _ h => h) (fun H locs hP hS _ _ => ?_)
  have hP : va_P D vwCl (mw κ b 1 v) H := hP
  exact hend _ _ _ _ dX1_headsPercent_21 hP hS
set_option maxHeartbeats 4000000 in
set_option maxRecDepth 100000 in
theorem c_X1_headsPercent_ok (l : Launch) (D : va_G) (κ : Nat → ClassId) (b : Nat → Nat) (u : Nat) (v : VS) (hv : ok_v v) (hap : ap_ b 4) (hw : 0 < wl_ v (hh_ v) (tt_ v)) : Wr l yX1_headsPercent cX1_headsPercent 3 (some .int) 5 118 (Pw D (kt_ κ) (mw κ b u v) [.ref (b 0)]) D (mw κ b 0 v) (ma_ b) (some (.int (nI (ch_ v true (hh_ v) (tt_ v) * 100 / (10 * wl_ v (hh_ v) (tt_ v)))))) := by
  refine wr_intro (own := RX1) (by decide +kernel) rfl (Nat.le_of_ble_eq_true rfl) (fun p e s m args below meth c pc ls H locs hx hb hr hlk d h1 h2 => rew_I hx hb hr hlk d h1 h2) ?_
  intro p e s m args below meth c ls Qq hx hb hml hown hts hK hP hS hend hl
  have hl : lv_has ls 3 [(0, .ref (b 0))] := hl
  obtain ⟨hv1, hv2, hv3, hv4, hv5, hv6⟩ := id hv
  have hP : va_P D vwCl (mw κ b u v) s.heap := hP
  have hq1 := hh_le v
  have hq2 := hh_tt v
  have hb2 := wl_b hv (a := hh_ v) (b := tt_ v) (by omega)
  have hb3 := ch_b hv true (a := hh_ v) (b := tt_ v) (by omega)
  refine lv_aload_n hx hb dX1_headsPercent_0 rfl (lv_at hl 0 rfl) ?_
  refine lv_iconst (v := nI (0)) hx hb dX1_headsPercent_1 (by decide) ?_
  refine va_put (D := D) (ci := 1) (v := .int (nI (0))) (ty := .int) (C := RX1) (T := TX1) (N := 8) hx hb hts i_X1 tyX1 tyX1_ok nmX1 hown hK hP (mx_D hap κ _ _ _ _ _ _ _ _) hS 0 rfl rfl 0 (by decide) (hts _ q_f_X1_19) (fun _ h9 => h9) rfl (by decide +kernel) rfl rfl (Nat.le_of_ble_eq_true rfl) dX1_headsPercent_2 (fun H locs hP _ hS => ?_)
  have hP : va_P D vwCl (mw κ b 0 v) H := hP
  refine lv_aload_n hx hb dX1_headsPercent_5 rfl (lv_at hl 0 rfl) ?_
  refine rd_V (rest := []) ⟨hx, hb, hml, hown, hts⟩ (c_X1_all l D κ b 0 v hv) g_X1_113 n_X1_all ⟨Nat.le_of_ble_eq_true rfl, Nat.le_of_ble_eq_true rfl⟩ hK hP rfl rfl rfl hl.1 rfl (Nat.le_of_ble_eq_true rfl) dX1_headsPercent_6 ⟨Nat.zero_le _, Nat.zero_le _⟩ ?_
  refine lv_lstore_n (lv' := [(1, .long (lN (wl_ v (hh_ v) (tt_ v)))), (0, .ref (b 0))]) hx hb dX1_headsPercent_9 rfl hl (by decide) rfl (fun ls hl => ?_)
  refine lv_lload_n hx hb dX1_headsPercent_10 rfl (lv_at hl 0 rfl) ?_
  refine lv_lconst (v := lN (0)) hx hb dX1_headsPercent_11 (by decide) ?_
  refine nv_lc_ne (tgt := 22) hx hb dX1_headsPercent_12 dX1_headsPercent_13 (by decide) (by omega) (by omega) (fun c_13 => ?_) (fun z => absurd z (by omega))
  refine lv_aload_n hx hb dX1_headsPercent_22 rfl (lv_at hl 1 rfl) ?_
  refine lv_iconst (v := nI (1)) hx hb dX1_headsPercent_23 (by decide) ?_
  refine nv_topi (show (nI (1) : Int32) = bI (true) from by rfl) ?_
  refine lv_aload_n hx hb dX1_headsPercent_24 rfl (lv_at hl 1 rfl) ?_
  refine rd_V (rest := [.int (bI (true)), .ref (b 0)]) ⟨hx, hb, hml, hown, hts⟩ (c_X1_headsNow l D κ b 0 v hv) g_X1_69 n_X1_headsNow ⟨Nat.le_of_ble_eq_true rfl, Nat.le_of_ble_eq_true rfl⟩ hK hP rfl rfl rfl hl.1 rfl (Nat.le_of_ble_eq_true rfl) dX1_headsPercent_25 ⟨Nat.zero_le _, Nat.zero_le _⟩ ?_
  refine lv_aload_n hx hb dX1_headsPercent_28 rfl (lv_at hl 1 rfl) ?_
  refine va_get (D := D) (ci := 1) (v := .int (nI (vs_t v))) (C := RX1) (T := TX1) (N := 8) hx hb hts i_X1 hown hK hP 0 rfl rfl 3 (by decide) (hts _ q_f_X1_33) (fun _ h9 => h9) rfl dX1_headsPercent_29 ?_
  refine lv_aload_n hx hb dX1_headsPercent_32 rfl (lv_at hl 1 rfl) ?_
  refine rd_V (rest := [.int (nI (vs_t v)), .int (nI (hh_ v)), .int (bI (true)), .ref (b 0)]) ⟨hx, hb, hml, hown, hts⟩ (c_X1_headsNow l D κ b 0 v hv) g_X1_69 n_X1_headsNow ⟨Nat.le_of_ble_eq_true rfl, Nat.le_of_ble_eq_true rfl⟩ hK hP rfl rfl rfl hl.1 rfl (Nat.le_of_ble_eq_true rfl) dX1_headsPercent_33 ⟨Nat.zero_le _, Nat.zero_le _⟩ ?_
  refine nv_isub (r := (vs_t v) - (hh_ v)) hx hb dX1_headsPercent_36 (by omega) ?_
  refine nv_topi (congrArg nI (show ((vs_t v) - (hh_ v) : Nat) = tt_ v from by rfl)) ?_
  refine rd_V (rest := []) ⟨hx, hb, hml, hown, hts⟩ (c_X1_chance l D κ b 0 v hv (true) (hh_ v) (tt_ v) (by omega) (by omega)) g_X1_65 n_X1_chance ⟨Nat.le_of_ble_eq_true rfl, Nat.le_of_ble_eq_true rfl⟩ hK hP rfl rfl rfl hl.1 rfl (Nat.le_of_ble_eq_true rfl) dX1_headsPercent_37 ⟨Nat.zero_le _, Nat.zero_le _⟩ ?_
  refine lv_ldc2 (own := RX1) (index := 120) (v := lN (100)) hx hb hown (hts _ q_k_X1_120) dX1_headsPercent_40 ?_
  refine nv_lmul hx hb dX1_headsPercent_43 rfl ?_
  refine lv_ldc2 (own := RX1) (index := 61) (v := lN (10)) hx hb hown (hts _ q_k_X1_61) dX1_headsPercent_44 ?_
  refine lv_lload_n hx hb dX1_headsPercent_47 rfl (lv_at hl 0 rfl) ?_
  refine nv_lmul hx hb dX1_headsPercent_48 rfl ?_
  refine nv_ldiv hx hb dX1_headsPercent_49 (by omega) (by omega) (by omega) rfl ?_
  refine nv_l2i hx hb dX1_headsPercent_50 ?_
  refine nv_topi (congrArg nI (show (((ch_ v true (hh_ v) (tt_ v)) * 100) / (10 * (wl_ v (hh_ v) (tt_ v))) : Nat) = ch_ v true (hh_ v) (tt_ v) * 100 / (10 * wl_ v (hh_ v) (tt_ v)) from by rfl)) ?_
  exact hend _ _ _ _ dX1_headsPercent_51 hP hS
set_option maxHeartbeats 4000000 in
set_option maxRecDepth 100000 in
theorem c_X1_wouldSurprise_x1 (l : Launch) (D : va_G) (κ : Nat → ClassId) (b : Nat → Nat) (u : Nat) (v : VS) (hv : ok_v v) (hap : ap_ b 4) (h_ : Bool) (hp0 : ch_ v h_ (hh_ v) (tt_ v) = 0) : Wr l yX1_wouldSurprise cX1_wouldSurprise 2 (some .int) 6 146 (Pw D (kt_ κ) (mw κ b u v) [.ref (b 0), .int (bI (h_))]) D (mw κ b 1 v) (ma_ b) (some (.int (nI (0)))) := by
  refine wr_intro (own := RX1) (by decide +kernel) rfl (Nat.le_of_ble_eq_true rfl) (fun p e s m args below meth c pc ls H locs hx hb hr hlk d h1 h2 => rew_I hx hb hr hlk d h1 h2) ?_
  intro p e s m args below meth c ls Qq hx hb hml hown hts hK hP hS hend hl
  have hl : lv_has ls 2 [(0, .ref (b 0)), (1, .int (bI (h_)))] := hl
  obtain ⟨hv1, hv2, hv3, hv4, hv5, hv6⟩ := id hv
  have hP : va_P D vwCl (mw κ b u v) s.heap := hP
  refine lv_aload_n hx hb dX1_wouldSurprise_0 rfl (lv_at hl 0 rfl) ?_
  refine lv_iconst (v := nI (0)) hx hb dX1_wouldSurprise_1 (by decide) ?_
  refine va_put (D := D) (ci := 1) (v := .int (nI (0))) (ty := .int) (C := RX1) (T := TX1) (N := 8) hx hb hts i_X1 tyX1 tyX1_ok nmX1 hown hK hP (mx_D hap κ _ _ _ _ _ _ _ _) hS 0 rfl rfl 0 (by decide) (hts _ q_f_X1_19) (fun _ h9 => h9) rfl (by decide +kernel) rfl rfl (Nat.le_of_ble_eq_true rfl) dX1_wouldSurprise_2 (fun H locs hP _ hS => ?_)
  have hP : va_P D vwCl (mw κ b 0 v) H := hP
  refine lv_aload_n hx hb dX1_wouldSurprise_5 rfl (lv_at hl 0 rfl) ?_
  refine lv_iload_n hx hb dX1_wouldSurprise_6 rfl (lv_at hl 1 rfl) ?_
  refine rd_V (rest := []) ⟨hx, hb, hml, hown, hts⟩ (c_X1_canBe l D κ b 0 v hv (h_)) g_X1_83 n_X1_canBe ⟨Nat.le_of_ble_eq_true rfl, Nat.le_of_ble_eq_true rfl⟩ hK hP rfl rfl rfl hl.1 rfl (Nat.le_of_ble_eq_true rfl) dX1_wouldSurprise_7 ⟨Nat.zero_le _, Nat.zero_le _⟩ ?_
  refine bv_if_eq (tgt := 34) hx hb dX1_wouldSurprise_10 (by decide) (fun c_10 => ?_) (fun z => absurd z (by rw [decide_eq_false (by omega)]; simp))
  refine lv_aload_n hx hb dX1_wouldSurprise_34 rfl (lv_at hl 0 rfl) ?_
  refine lv_iconst (v := nI (1)) hx hb dX1_wouldSurprise_35 (by decide) ?_
  refine wr_V (rest := []) ⟨hx, hb, hml, hown, hts⟩ (c_X1_fail_ok l D κ b 0 v hv hap (1) (by omega)) g_X1_73 n_X1_fail ⟨Nat.le_of_ble_eq_true rfl, Nat.le_of_ble_eq_true rfl⟩ hK hP rfl rfl rfl hl.1 rfl (Nat.le_of_ble_eq_true rfl) dX1_wouldSurprise_36 ⟨Nat.zero_le _, Nat.zero_le _⟩ hS (fun _ h => h) (fun H locs hP hS _ _ => ?_)
  have hP : va_P D vwCl (mw κ b 1 v) H := hP
  exact hend _ _ _ _ dX1_wouldSurprise_39 hP hS
set_option maxHeartbeats 4000000 in
set_option maxRecDepth 100000 in
theorem c_X1_wouldSurprise_ok (l : Launch) (D : va_G) (κ : Nat → ClassId) (b : Nat → Nat) (u : Nat) (v : VS) (hv : ok_v v) (hap : ap_ b 4) (h_ : Bool) (hp : 0 < ch_ v h_ (hh_ v) (tt_ v)) : Wr l yX1_wouldSurprise cX1_wouldSurprise 2 (some .int) 6 146 (Pw D (kt_ κ) (mw κ b u v) [.ref (b 0), .int (bI (h_))]) D (mw κ b 0 v) (ma_ b) (some (.int (nI (su_ v h_ (hh_ v) (tt_ v))))) := by
  refine wr_intro (own := RX1) (by decide +kernel) rfl (Nat.le_of_ble_eq_true rfl) (fun p e s m args below meth c pc ls H locs hx hb hr hlk d h1 h2 => rew_I hx hb hr hlk d h1 h2) ?_
  intro p e s m args below meth c ls Qq hx hb hml hown hts hK hP hS hend hl
  have hl : lv_has ls 2 [(0, .ref (b 0)), (1, .int (bI (h_)))] := hl
  obtain ⟨hv1, hv2, hv3, hv4, hv5, hv6⟩ := id hv
  have hP : va_P D vwCl (mw κ b u v) s.heap := hP
  have hq1 := hh_le v
  have hq2 := hh_tt v
  refine lv_aload_n hx hb dX1_wouldSurprise_0 rfl (lv_at hl 0 rfl) ?_
  refine lv_iconst (v := nI (0)) hx hb dX1_wouldSurprise_1 (by decide) ?_
  refine va_put (D := D) (ci := 1) (v := .int (nI (0))) (ty := .int) (C := RX1) (T := TX1) (N := 8) hx hb hts i_X1 tyX1 tyX1_ok nmX1 hown hK hP (mx_D hap κ _ _ _ _ _ _ _ _) hS 0 rfl rfl 0 (by decide) (hts _ q_f_X1_19) (fun _ h9 => h9) rfl (by decide +kernel) rfl rfl (Nat.le_of_ble_eq_true rfl) dX1_wouldSurprise_2 (fun H locs hP _ hS => ?_)
  have hP : va_P D vwCl (mw κ b 0 v) H := hP
  refine lv_aload_n hx hb dX1_wouldSurprise_5 rfl (lv_at hl 0 rfl) ?_
  refine lv_iload_n hx hb dX1_wouldSurprise_6 rfl (lv_at hl 1 rfl) ?_
  refine rd_V (rest := []) ⟨hx, hb, hml, hown, hts⟩ (c_X1_canBe l D κ b 0 v hv (h_)) g_X1_83 n_X1_canBe ⟨Nat.le_of_ble_eq_true rfl, Nat.le_of_ble_eq_true rfl⟩ hK hP rfl rfl rfl hl.1 rfl (Nat.le_of_ble_eq_true rfl) dX1_wouldSurprise_7 ⟨Nat.zero_le _, Nat.zero_le _⟩ ?_
  refine bv_if_eq (tgt := 34) hx hb dX1_wouldSurprise_10 (by decide) (fun z => absurd z (by rw [decide_eq_true hp]; simp)) (fun c_10 => ?_)
  refine lv_aload_n hx hb dX1_wouldSurprise_13 rfl (lv_at hl 0 rfl) ?_
  refine lv_iload_n hx hb dX1_wouldSurprise_14 rfl (lv_at hl 1 rfl) ?_
  refine lv_aload_n hx hb dX1_wouldSurprise_15 rfl (lv_at hl 0 rfl) ?_
  refine rd_V (rest := [.int (bI (h_)), .ref (b 0)]) ⟨hx, hb, hml, hown, hts⟩ (c_X1_headsNow l D κ b 0 v hv) g_X1_69 n_X1_headsNow ⟨Nat.le_of_ble_eq_true rfl, Nat.le_of_ble_eq_true rfl⟩ hK hP rfl rfl rfl hl.1 rfl (Nat.le_of_ble_eq_true rfl) dX1_wouldSurprise_16 ⟨Nat.zero_le _, Nat.zero_le _⟩ ?_
  refine lv_aload_n hx hb dX1_wouldSurprise_19 rfl (lv_at hl 0 rfl) ?_
  refine va_get (D := D) (ci := 1) (v := .int (nI (vs_t v))) (C := RX1) (T := TX1) (N := 8) hx hb hts i_X1 hown hK hP 0 rfl rfl 3 (by decide) (hts _ q_f_X1_33) (fun _ h9 => h9) rfl dX1_wouldSurprise_20 ?_
  refine lv_aload_n hx hb dX1_wouldSurprise_23 rfl (lv_at hl 0 rfl) ?_
  refine rd_V (rest := [.int (nI (vs_t v)), .int (nI (hh_ v)), .int (bI (h_)), .ref (b 0)]) ⟨hx, hb, hml, hown, hts⟩ (c_X1_headsNow l D κ b 0 v hv) g_X1_69 n_X1_headsNow ⟨Nat.le_of_ble_eq_true rfl, Nat.le_of_ble_eq_true rfl⟩ hK hP rfl rfl rfl hl.1 rfl (Nat.le_of_ble_eq_true rfl) dX1_wouldSurprise_24 ⟨Nat.zero_le _, Nat.zero_le _⟩ ?_
  refine nv_isub (r := (vs_t v) - (hh_ v)) hx hb dX1_wouldSurprise_27 (by omega) ?_
  refine nv_topi (congrArg nI (show ((vs_t v) - (hh_ v) : Nat) = tt_ v from by rfl)) ?_
  refine rd_V (rest := []) ⟨hx, hb, hml, hown, hts⟩ (c_X1_surprise l D κ b 0 v hv (h_) (hh_ v) (tt_ v) (by omega) (hp)) g_X1_87 n_X1_surprise ⟨Nat.le_of_ble_eq_true rfl, Nat.le_of_ble_eq_true rfl⟩ hK hP rfl rfl rfl hl.1 rfl (Nat.le_of_ble_eq_true rfl) dX1_wouldSurprise_28 ⟨Nat.zero_le _, Nat.zero_le _⟩ ?_
  refine lv_goto (tgt := 39) hx hb dX1_wouldSurprise_31 (by decide) ?_
  exact hend _ _ _ _ dX1_wouldSurprise_39 hP hS
set_option maxHeartbeats 4000000 in
set_option maxRecDepth 100000 in
theorem c_X1_leaderBehind_x1 (l : Launch) (D : va_G) (κ : Nat → ClassId) (b : Nat → Nat) (u : Nat) (v : VS) (hv : ok_v v) (hap : ap_ b 4) (h_ : Bool) (hp0 : ch_ v h_ (hh_ v) (tt_ v) = 0) : Wr l yX1_leaderBehind cX1_leaderBehind 3 (some .int) 6 139 (Pw D (kt_ κ) (mw κ b u v) [.ref (b 0), .int (bI (h_))]) D (mw κ b 1 v) (ma_ b) (some (.int (nI (0)))) := by
  refine wr_intro (own := RX1) (by decide +kernel) rfl (Nat.le_of_ble_eq_true rfl) (fun p e s m args below meth c pc ls H locs hx hb hr hlk d h1 h2 => rew_I hx hb hr hlk d h1 h2) ?_
  intro p e s m args below meth c ls Qq hx hb hml hown hts hK hP hS hend hl
  have hl : lv_has ls 3 [(0, .ref (b 0)), (1, .int (bI (h_)))] := hl
  obtain ⟨hv1, hv2, hv3, hv4, hv5, hv6⟩ := id hv
  have hP : va_P D vwCl (mw κ b u v) s.heap := hP
  refine lv_aload_n hx hb dX1_leaderBehind_0 rfl (lv_at hl 0 rfl) ?_
  refine lv_iconst (v := nI (0)) hx hb dX1_leaderBehind_1 (by decide) ?_
  refine va_put (D := D) (ci := 1) (v := .int (nI (0))) (ty := .int) (C := RX1) (T := TX1) (N := 8) hx hb hts i_X1 tyX1 tyX1_ok nmX1 hown hK hP (mx_D hap κ _ _ _ _ _ _ _ _) hS 0 rfl rfl 0 (by decide) (hts _ q_f_X1_19) (fun _ h9 => h9) rfl (by decide +kernel) rfl rfl (Nat.le_of_ble_eq_true rfl) dX1_leaderBehind_2 (fun H locs hP _ hS => ?_)
  have hP : va_P D vwCl (mw κ b 0 v) H := hP
  refine lv_aload_n hx hb dX1_leaderBehind_5 rfl (lv_at hl 0 rfl) ?_
  refine lv_iload_n hx hb dX1_leaderBehind_6 rfl (lv_at hl 1 rfl) ?_
  refine rd_V (rest := []) ⟨hx, hb, hml, hown, hts⟩ (c_X1_canBe l D κ b 0 v hv (h_)) g_X1_83 n_X1_canBe ⟨Nat.le_of_ble_eq_true rfl, Nat.le_of_ble_eq_true rfl⟩ hK hP rfl rfl rfl hl.1 rfl (Nat.le_of_ble_eq_true rfl) dX1_leaderBehind_7 ⟨Nat.zero_le _, Nat.zero_le _⟩ ?_
  refine bv_if_ne (tgt := 19) hx hb dX1_leaderBehind_10 (by decide) (fun z => absurd z (by rw [decide_eq_false (by omega)]; simp)) (fun c_10 => ?_)
  refine lv_aload_n hx hb dX1_leaderBehind_13 rfl (lv_at hl 0 rfl) ?_
  refine lv_iconst (v := nI (1)) hx hb dX1_leaderBehind_14 (by decide) ?_
  refine wr_V (rest := []) ⟨hx, hb, hml, hown, hts⟩ (c_X1_fail_ok l D κ b 0 v hv hap (1) (by omega)) g_X1_73 n_X1_fail ⟨Nat.le_of_ble_eq_true rfl, Nat.le_of_ble_eq_true rfl⟩ hK hP rfl rfl rfl hl.1 rfl (Nat.le_of_ble_eq_true rfl) dX1_leaderBehind_15 ⟨Nat.zero_le _, Nat.zero_le _⟩ hS (fun _ h => h) (fun H locs hP hS _ _ => ?_)
  have hP : va_P D vwCl (mw κ b 1 v) H := hP
  exact hend _ _ _ _ dX1_leaderBehind_18 hP hS
set_option maxHeartbeats 4000000 in
set_option maxRecDepth 100000 in
theorem c_X1_leaderBehind_ok (l : Launch) (D : va_G) (κ : Nat → ClassId) (b : Nat → Nat) (u : Nat) (v : VS) (hv : ok_v v) (hap : ap_ b 4) (h_ : Bool) (hp : 0 < ch_ v h_ (hh_ v) (tt_ v)) : Wr l yX1_leaderBehind cX1_leaderBehind 3 (some .int) 6 139 (Pw D (kt_ κ) (mw κ b u v) [.ref (b 0), .int (bI (h_))]) D (mw κ b 0 v) (ma_ b) (some (.int (nI (lb_ v h_)))) := by
  refine wr_intro (own := RX1) (by decide +kernel) rfl (Nat.le_of_ble_eq_true rfl) (fun p e s m args below meth c pc ls H locs hx hb hr hlk d h1 h2 => rew_I hx hb hr hlk d h1 h2) ?_
  intro p e s m args below meth c ls Qq hx hb hml hown hts hK hP hS hend hl
  have hl : lv_has ls 3 [(0, .ref (b 0)), (1, .int (bI (h_)))] := hl
  obtain ⟨hv1, hv2, hv3, hv4, hv5, hv6⟩ := id hv
  have hP : va_P D vwCl (mw κ b u v) s.heap := hP
  have hq1 := hh_le v
  have hq2 := hh_tt v
  refine lv_aload_n hx hb dX1_leaderBehind_0 rfl (lv_at hl 0 rfl) ?_
  refine lv_iconst (v := nI (0)) hx hb dX1_leaderBehind_1 (by decide) ?_
  refine va_put (D := D) (ci := 1) (v := .int (nI (0))) (ty := .int) (C := RX1) (T := TX1) (N := 8) hx hb hts i_X1 tyX1 tyX1_ok nmX1 hown hK hP (mx_D hap κ _ _ _ _ _ _ _ _) hS 0 rfl rfl 0 (by decide) (hts _ q_f_X1_19) (fun _ h9 => h9) rfl (by decide +kernel) rfl rfl (Nat.le_of_ble_eq_true rfl) dX1_leaderBehind_2 (fun H locs hP _ hS => ?_)
  have hP : va_P D vwCl (mw κ b 0 v) H := hP
  refine lv_aload_n hx hb dX1_leaderBehind_5 rfl (lv_at hl 0 rfl) ?_
  refine lv_iload_n hx hb dX1_leaderBehind_6 rfl (lv_at hl 1 rfl) ?_
  refine rd_V (rest := []) ⟨hx, hb, hml, hown, hts⟩ (c_X1_canBe l D κ b 0 v hv (h_)) g_X1_83 n_X1_canBe ⟨Nat.le_of_ble_eq_true rfl, Nat.le_of_ble_eq_true rfl⟩ hK hP rfl rfl rfl hl.1 rfl (Nat.le_of_ble_eq_true rfl) dX1_leaderBehind_7 ⟨Nat.zero_le _, Nat.zero_le _⟩ ?_
  refine bv_if_ne (tgt := 19) hx hb dX1_leaderBehind_10 (by decide) (fun c_10 => ?_) (fun z => absurd z (by rw [decide_eq_true hp]; simp))
  refine lv_aload_n hx hb dX1_leaderBehind_19 rfl (lv_at hl 0 rfl) ?_
  refine rd_V (rest := []) ⟨hx, hb, hml, hown, hts⟩ (c_X1_headsNow l D κ b 0 v hv) g_X1_69 n_X1_headsNow ⟨Nat.le_of_ble_eq_true rfl, Nat.le_of_ble_eq_true rfl⟩ hK hP rfl rfl rfl hl.1 rfl (Nat.le_of_ble_eq_true rfl) dX1_leaderBehind_20 ⟨Nat.zero_le _, Nat.zero_le _⟩ ?_
  refine lv_iload_n hx hb dX1_leaderBehind_23 rfl (lv_at hl 1 rfl) ?_
  refine bv_if_eq (tgt := 31) hx hb dX1_leaderBehind_24 (by decide) (fun c_24 => ?_) (fun c_24 => ?_)
  · refine lv_iconst (v := nI (0)) hx hb dX1_leaderBehind_31 (by decide) ?_
    refine nv_iadd hx hb dX1_leaderBehind_32 rfl ?_
    refine nv_topi (congrArg nI (show ((hh_ v) + 0 : Nat) = hh_ v from by rfl)) ?_
    refine lv_istore_n (lv' := [(2, .int (nI (hh_ v))), (0, .ref (b 0)), (1, .int (bI (h_)))]) hx hb dX1_leaderBehind_33 rfl hl (by decide) rfl (fun ls hl => ?_)
    refine lv_aload_n hx hb dX1_leaderBehind_34 rfl (lv_at hl 1 rfl) ?_
    refine lv_iload_n hx hb dX1_leaderBehind_35 rfl (lv_at hl 0 rfl) ?_
    refine lv_aload_n hx hb dX1_leaderBehind_36 rfl (lv_at hl 1 rfl) ?_
    refine va_get (D := D) (ci := 1) (v := .int (nI (vs_t v))) (C := RX1) (T := TX1) (N := 8) hx hb hts i_X1 hown hK hP 0 rfl rfl 3 (by decide) (hts _ q_f_X1_33) (fun _ h9 => h9) rfl dX1_leaderBehind_37 ?_
    refine lv_iconst (v := nI (1)) hx hb dX1_leaderBehind_40 (by decide) ?_
    refine nv_iadd hx hb dX1_leaderBehind_41 rfl ?_
    refine lv_iload_n hx hb dX1_leaderBehind_42 rfl (lv_at hl 0 rfl) ?_
    refine nv_isub (r := ((vs_t v) + 1) - (hh_ v)) hx hb dX1_leaderBehind_43 (by omega) ?_
    refine nv_topi (congrArg nI (show (((vs_t v) + 1) - (hh_ v) : Nat) = tt_ v + 1 from by omega)) ?_
    refine rd_V (rest := []) ⟨hx, hb, hml, hown, hts⟩ (c_X1_leader l D κ b 0 v hv (hh_ v) (tt_ v + 1) (by omega)) g_X1_122 n_X1_leader ⟨Nat.le_of_ble_eq_true rfl, Nat.le_of_ble_eq_true rfl⟩ hK hP rfl rfl rfl hl.1 rfl (Nat.le_of_ble_eq_true rfl) dX1_leaderBehind_44 ⟨Nat.zero_le _, Nat.zero_le _⟩ ?_
    refine nv_topi (congrArg nI (show (ld_ v (hh_ v) (tt_ v + 1) (vs_c v) : Nat) = lb_ v h_ from by first | exact (if_pos c_24).symm | exact (if_neg (by rw [c_24]; simp)).symm)) ?_
    exact hend _ _ _ _ dX1_leaderBehind_47 hP hS
  · refine lv_iconst (v := nI (1)) hx hb dX1_leaderBehind_27 (by decide) ?_
    refine lv_goto (tgt := 32) hx hb dX1_leaderBehind_28 (by decide) ?_
    refine nv_iadd hx hb dX1_leaderBehind_32 rfl ?_
    refine lv_istore_n (lv' := [(2, .int (nI ((hh_ v) + 1))), (0, .ref (b 0)), (1, .int (bI (h_)))]) hx hb dX1_leaderBehind_33 rfl hl (by decide) rfl (fun ls hl => ?_)
    refine lv_aload_n hx hb dX1_leaderBehind_34 rfl (lv_at hl 1 rfl) ?_
    refine lv_iload_n hx hb dX1_leaderBehind_35 rfl (lv_at hl 0 rfl) ?_
    refine lv_aload_n hx hb dX1_leaderBehind_36 rfl (lv_at hl 1 rfl) ?_
    refine va_get (D := D) (ci := 1) (v := .int (nI (vs_t v))) (C := RX1) (T := TX1) (N := 8) hx hb hts i_X1 hown hK hP 0 rfl rfl 3 (by decide) (hts _ q_f_X1_33) (fun _ h9 => h9) rfl dX1_leaderBehind_37 ?_
    refine lv_iconst (v := nI (1)) hx hb dX1_leaderBehind_40 (by decide) ?_
    refine nv_iadd hx hb dX1_leaderBehind_41 rfl ?_
    refine lv_iload_n hx hb dX1_leaderBehind_42 rfl (lv_at hl 0 rfl) ?_
    refine nv_isub (r := ((vs_t v) + 1) - ((hh_ v) + 1)) hx hb dX1_leaderBehind_43 (by omega) ?_
    refine nv_topi (congrArg nI (show (((vs_t v) + 1) - ((hh_ v) + 1) : Nat) = tt_ v from by omega)) ?_
    refine rd_V (rest := []) ⟨hx, hb, hml, hown, hts⟩ (c_X1_leader l D κ b 0 v hv ((hh_ v) + 1) (tt_ v) (by omega)) g_X1_122 n_X1_leader ⟨Nat.le_of_ble_eq_true rfl, Nat.le_of_ble_eq_true rfl⟩ hK hP rfl rfl rfl hl.1 rfl (Nat.le_of_ble_eq_true rfl) dX1_leaderBehind_44 ⟨Nat.zero_le _, Nat.zero_le _⟩ ?_
    refine nv_topi (congrArg nI (show (ld_ v ((hh_ v) + 1) (tt_ v) (vs_c v) : Nat) = lb_ v h_ from by first | exact (if_pos c_24).symm | exact (if_neg (by rw [c_24]; simp)).symm)) ?_
    exact hend _ _ _ _ dX1_leaderBehind_47 hP hS
set_option maxHeartbeats 4000000 in
set_option maxRecDepth 100000 in
theorem c_X1_meanTenths_x1 (l : Launch) (D : va_G) (κ : Nat → ClassId) (b : Nat → Nat) (u : Nat) (v : VS) (hv : ok_v v) (hap : ap_ b 4) (hw0 : wl_ v (hh_ v) (tt_ v) = 0) : Wr l yX1_meanTenths cX1_meanTenths 3 (some .double) 5 118 (Pw D (kt_ κ) (mw κ b u v) [.ref (b 0)]) D (mw κ b 1 v) (ma_ b) (some (.double (FP.i2d (nI (0))))) := by
  refine wr_intro (own := RX1) (by decide +kernel) rfl (Nat.le_of_ble_eq_true rfl) (fun p e s m args below meth c pc ls H locs hx hb hr hlk d h1 h2 => rew_D hx hb hr hlk d h1 h2) ?_
  intro p e s m args below meth c ls Qq hx hb hml hown hts hK hP hS hend hl
  have hl : lv_has ls 3 [(0, .ref (b 0))] := hl
  obtain ⟨hv1, hv2, hv3, hv4, hv5, hv6⟩ := id hv
  have hP : va_P D vwCl (mw κ b u v) s.heap := hP
  have hq1 := hh_le v
  have hq2 := hh_tt v
  have hb2 := wl_b hv (a := hh_ v) (b := tt_ v) (by omega)
  refine lv_aload_n hx hb dX1_meanTenths_0 rfl (lv_at hl 0 rfl) ?_
  refine lv_iconst (v := nI (0)) hx hb dX1_meanTenths_1 (by decide) ?_
  refine va_put (D := D) (ci := 1) (v := .int (nI (0))) (ty := .int) (C := RX1) (T := TX1) (N := 8) hx hb hts i_X1 tyX1 tyX1_ok nmX1 hown hK hP (mx_D hap κ _ _ _ _ _ _ _ _) hS 0 rfl rfl 0 (by decide) (hts _ q_f_X1_19) (fun _ h9 => h9) rfl (by decide +kernel) rfl rfl (Nat.le_of_ble_eq_true rfl) dX1_meanTenths_2 (fun H locs hP _ hS => ?_)
  have hP : va_P D vwCl (mw κ b 0 v) H := hP
  refine lv_aload_n hx hb dX1_meanTenths_5 rfl (lv_at hl 0 rfl) ?_
  refine rd_V (rest := []) ⟨hx, hb, hml, hown, hts⟩ (c_X1_all l D κ b 0 v hv) g_X1_113 n_X1_all ⟨Nat.le_of_ble_eq_true rfl, Nat.le_of_ble_eq_true rfl⟩ hK hP rfl rfl rfl hl.1 rfl (Nat.le_of_ble_eq_true rfl) dX1_meanTenths_6 ⟨Nat.zero_le _, Nat.zero_le _⟩ ?_
  refine lv_lstore_n (lv' := [(1, .long (lN (wl_ v (hh_ v) (tt_ v)))), (0, .ref (b 0))]) hx hb dX1_meanTenths_9 rfl hl (by decide) rfl (fun ls hl => ?_)
  refine lv_lload_n hx hb dX1_meanTenths_10 rfl (lv_at hl 0 rfl) ?_
  refine lv_lconst (v := lN (0)) hx hb dX1_meanTenths_11 (by decide) ?_
  refine nv_lc_ne (tgt := 23) hx hb dX1_meanTenths_12 dX1_meanTenths_13 (by decide) (by omega) (by omega) (fun z => absurd z (by omega)) (fun c_13 => ?_)
  refine lv_aload_n hx hb dX1_meanTenths_16 rfl (lv_at hl 1 rfl) ?_
  refine lv_iconst (v := nI (1)) hx hb dX1_meanTenths_17 (by decide) ?_
  refine wr_V (rest := []) ⟨hx, hb, hml, hown, hts⟩ (c_X1_fail_ok l D κ b 0 v hv hap (1) (by omega)) g_X1_73 n_X1_fail ⟨Nat.le_of_ble_eq_true rfl, Nat.le_of_ble_eq_true rfl⟩ hK hP rfl rfl rfl hl.1 rfl (Nat.le_of_ble_eq_true rfl) dX1_meanTenths_18 ⟨Nat.zero_le _, Nat.zero_le _⟩ hS (fun _ h => h) (fun H locs hP hS _ _ => ?_)
  have hP : va_P D vwCl (mw κ b 1 v) H := hP
  refine lv_i2d hx hb dX1_meanTenths_21 ?_
  exact hend _ _ _ _ dX1_meanTenths_22 hP hS
set_option maxHeartbeats 4000000 in
set_option maxRecDepth 100000 in
theorem c_X1_meanTenths_ok (l : Launch) (D : va_G) (κ : Nat → ClassId) (b : Nat → Nat) (u : Nat) (v : VS) (hv : ok_v v) (hap : ap_ b 4) (hw : 0 < wl_ v (hh_ v) (tt_ v)) : Wr l yX1_meanTenths cX1_meanTenths 3 (some .double) 5 118 (Pw D (kt_ κ) (mw κ b u v) [.ref (b 0)]) D (mw κ b 0 v) (ma_ b) (some (.double (mt_ v))) := by
  refine wr_intro (own := RX1) (by decide +kernel) rfl (Nat.le_of_ble_eq_true rfl) (fun p e s m args below meth c pc ls H locs hx hb hr hlk d h1 h2 => rew_D hx hb hr hlk d h1 h2) ?_
  intro p e s m args below meth c ls Qq hx hb hml hown hts hK hP hS hend hl
  have hl : lv_has ls 3 [(0, .ref (b 0))] := hl
  obtain ⟨hv1, hv2, hv3, hv4, hv5, hv6⟩ := id hv
  have hP : va_P D vwCl (mw κ b u v) s.heap := hP
  have hq1 := hh_le v
  have hq2 := hh_tt v
  have hb2 := wl_b hv (a := hh_ v) (b := tt_ v) (by omega)
  refine lv_aload_n hx hb dX1_meanTenths_0 rfl (lv_at hl 0 rfl) ?_
  refine lv_iconst (v := nI (0)) hx hb dX1_meanTenths_1 (by decide) ?_
  refine va_put (D := D) (ci := 1) (v := .int (nI (0))) (ty := .int) (C := RX1) (T := TX1) (N := 8) hx hb hts i_X1 tyX1 tyX1_ok nmX1 hown hK hP (mx_D hap κ _ _ _ _ _ _ _ _) hS 0 rfl rfl 0 (by decide) (hts _ q_f_X1_19) (fun _ h9 => h9) rfl (by decide +kernel) rfl rfl (Nat.le_of_ble_eq_true rfl) dX1_meanTenths_2 (fun H locs hP _ hS => ?_)
  have hP : va_P D vwCl (mw κ b 0 v) H := hP
  refine lv_aload_n hx hb dX1_meanTenths_5 rfl (lv_at hl 0 rfl) ?_
  refine rd_V (rest := []) ⟨hx, hb, hml, hown, hts⟩ (c_X1_all l D κ b 0 v hv) g_X1_113 n_X1_all ⟨Nat.le_of_ble_eq_true rfl, Nat.le_of_ble_eq_true rfl⟩ hK hP rfl rfl rfl hl.1 rfl (Nat.le_of_ble_eq_true rfl) dX1_meanTenths_6 ⟨Nat.zero_le _, Nat.zero_le _⟩ ?_
  refine lv_lstore_n (lv' := [(1, .long (lN (wl_ v (hh_ v) (tt_ v)))), (0, .ref (b 0))]) hx hb dX1_meanTenths_9 rfl hl (by decide) rfl (fun ls hl => ?_)
  refine lv_lload_n hx hb dX1_meanTenths_10 rfl (lv_at hl 0 rfl) ?_
  refine lv_lconst (v := lN (0)) hx hb dX1_meanTenths_11 (by decide) ?_
  refine nv_lc_ne (tgt := 23) hx hb dX1_meanTenths_12 dX1_meanTenths_13 (by decide) (by omega) (by omega) (fun c_13 => ?_) (fun z => absurd z (by omega))
  refine lv_aload_n hx hb dX1_meanTenths_23 rfl (lv_at hl 1 rfl) ?_
  refine lv_iconst (v := nI (1)) hx hb dX1_meanTenths_24 (by decide) ?_
  refine nv_topi (show (nI (1) : Int32) = bI (true) from by rfl) ?_
  refine lv_aload_n hx hb dX1_meanTenths_25 rfl (lv_at hl 1 rfl) ?_
  refine rd_V (rest := [.int (bI (true)), .ref (b 0)]) ⟨hx, hb, hml, hown, hts⟩ (c_X1_headsNow l D κ b 0 v hv) g_X1_69 n_X1_headsNow ⟨Nat.le_of_ble_eq_true rfl, Nat.le_of_ble_eq_true rfl⟩ hK hP rfl rfl rfl hl.1 rfl (Nat.le_of_ble_eq_true rfl) dX1_meanTenths_26 ⟨Nat.zero_le _, Nat.zero_le _⟩ ?_
  refine lv_aload_n hx hb dX1_meanTenths_29 rfl (lv_at hl 1 rfl) ?_
  refine va_get (D := D) (ci := 1) (v := .int (nI (vs_t v))) (C := RX1) (T := TX1) (N := 8) hx hb hts i_X1 hown hK hP 0 rfl rfl 3 (by decide) (hts _ q_f_X1_33) (fun _ h9 => h9) rfl dX1_meanTenths_30 ?_
  refine lv_aload_n hx hb dX1_meanTenths_33 rfl (lv_at hl 1 rfl) ?_
  refine rd_V (rest := [.int (nI (vs_t v)), .int (nI (hh_ v)), .int (bI (true)), .ref (b 0)]) ⟨hx, hb, hml, hown, hts⟩ (c_X1_headsNow l D κ b 0 v hv) g_X1_69 n_X1_headsNow ⟨Nat.le_of_ble_eq_true rfl, Nat.le_of_ble_eq_true rfl⟩ hK hP rfl rfl rfl hl.1 rfl (Nat.le_of_ble_eq_true rfl) dX1_meanTenths_34 ⟨Nat.zero_le _, Nat.zero_le _⟩ ?_
  refine nv_isub (r := (vs_t v) - (hh_ v)) hx hb dX1_meanTenths_37 (by omega) ?_
  refine nv_topi (congrArg nI (show ((vs_t v) - (hh_ v) : Nat) = tt_ v from by rfl)) ?_
  refine rd_V (rest := []) ⟨hx, hb, hml, hown, hts⟩ (c_X1_chance l D κ b 0 v hv (true) (hh_ v) (tt_ v) (by omega) (by omega)) g_X1_65 n_X1_chance ⟨Nat.le_of_ble_eq_true rfl, Nat.le_of_ble_eq_true rfl⟩ hK hP rfl rfl rfl hl.1 rfl (Nat.le_of_ble_eq_true rfl) dX1_meanTenths_38 ⟨Nat.zero_le _, Nat.zero_le _⟩ ?_
  refine lv_l2d hx hb dX1_meanTenths_41 ?_
  refine lv_lload_n hx hb dX1_meanTenths_42 rfl (lv_at hl 0 rfl) ?_
  refine lv_l2d hx hb dX1_meanTenths_43 ?_
  refine lv_ddiv hx hb dX1_meanTenths_44 (dd_ok _ hw (by omega)) ?_
  refine nv_top (congrArg Value.double (show (FP.ddiv (FP.l2d (lN (ch_ v true (hh_ v) (tt_ v)))) (FP.l2d (lN (wl_ v (hh_ v) (tt_ v)))) : UInt64) = mt_ v from by rfl)) ?_
  exact hend _ _ _ _ dX1_meanTenths_45 hP hS
set_option maxHeartbeats 4000000 in
set_option maxRecDepth 100000 in
theorem c_X1_digest_ok (l : Launch) (D : va_G) (κ : Nat → ClassId) (b : Nat → Nat) (u : Nat) (v : VS) (hv : ok_v v) (hap : ap_ b 4) (hpp : pp_ v) : Wr l yX1_digest cX1_digest 5 (some .long) 8 190 (Pw D (kt_ κ) (mw κ b u v) [.ref (b 0)]) D (mw κ b 0 v) (ma_ b) (some (.long (di_ v))) := by
  refine wr_intro (own := RX1) (by decide +kernel) rfl (Nat.le_of_ble_eq_true rfl) (fun p e s m args below meth c pc ls H locs hx hb hr hlk d h1 h2 => rew_L hx hb hr hlk d h1 h2) ?_
  intro p e s m args below meth c ls Qq hx hb hml hown hts hK hP hS hend hl
  have hl : lv_has ls 5 [(0, .ref (b 0))] := hl
  obtain ⟨hv1, hv2, hv3, hv4, hv5, hv6⟩ := id hv
  have hP : va_P D vwCl (mw κ b u v) s.heap := hP
  have hq1 := hh_le v
  have hq2 := hh_tt v
  have g1 := go_le v
  have g2 := as_le v
  have g3 := dc_le v
  refine lv_aload_n hx hb dX1_digest_0 rfl (lv_at hl 0 rfl) ?_
  refine lv_iconst (v := nI (0)) hx hb dX1_digest_1 (by decide) ?_
  refine va_put (D := D) (ci := 1) (v := .int (nI (0))) (ty := .int) (C := RX1) (T := TX1) (N := 8) hx hb hts i_X1 tyX1 tyX1_ok nmX1 hown hK hP (mx_D hap κ _ _ _ _ _ _ _ _) hS 0 rfl rfl 0 (by decide) (hts _ q_f_X1_19) (fun _ h9 => h9) rfl (by decide +kernel) rfl rfl (Nat.le_of_ble_eq_true rfl) dX1_digest_2 (fun H locs hP _ hS => ?_)
  have hP : va_P D vwCl (mw κ b 0 v) H := hP
  refine lv_ldc2 (own := RX1) (index := 142) (v := lN (1913)) hx hb hown (hts _ q_k_X1_142) dX1_digest_5 ?_
  refine nv_topl (show (lN (1913) : Int64) = 1913 from by rfl) ?_
  refine lv_lstore_n (lv' := [(1, .long (1913)), (0, .ref (b 0))]) hx hb dX1_digest_8 rfl hl (by decide) rfl (fun ls hl => ?_)
  refine lv_lload_n hx hb dX1_digest_9 rfl (lv_at hl 0 rfl) ?_
  refine lv_ldc2 (own := RX1) (index := 144) (v := lN (31)) hx hb hown (hts _ q_k_X1_144) dX1_digest_10 ?_
  refine lv_lmul hx hb dX1_digest_13 ?_
  refine lv_aload_n hx hb dX1_digest_14 rfl (lv_at hl 1 rfl) ?_
  refine va_get (D := D) (ci := 1) (v := .int (nI (vs_c v))) (C := RX1) (T := TX1) (N := 8) hx hb hts i_X1 hown hK hP 0 rfl rfl 1 (by decide) (hts _ q_f_X1_23) (fun _ h9 => h9) rfl dX1_digest_15 ?_
  refine nv_i2l hx hb dX1_digest_18 (by omega) ?_
  refine lv_ladd hx hb dX1_digest_19 ?_
  refine nv_topl (show (((1913) * (lN (31))) + (lN (vs_c v)) : Int64) = dg_ (1913) (lN (vs_c v)) from by rfl) ?_
  refine lv_lstore_n (lv' := [(1, .long (dg_ (1913) (lN (vs_c v)))), (0, .ref (b 0))]) hx hb dX1_digest_20 rfl hl (by decide) rfl (fun ls hl => ?_)
  refine lv_lload_n hx hb dX1_digest_21 rfl (lv_at hl 0 rfl) ?_
  refine lv_ldc2 (own := RX1) (index := 144) (v := lN (31)) hx hb hown (hts _ q_k_X1_144) dX1_digest_22 ?_
  refine lv_lmul hx hb dX1_digest_25 ?_
  refine lv_aload_n hx hb dX1_digest_26 rfl (lv_at hl 1 rfl) ?_
  refine va_get (D := D) (ci := 1) (v := .int (nI (vs_n v))) (C := RX1) (T := TX1) (N := 8) hx hb hts i_X1 hown hK hP 0 rfl rfl 2 (by decide) (hts _ q_f_X1_30) (fun _ h9 => h9) rfl dX1_digest_27 ?_
  refine nv_i2l hx hb dX1_digest_30 (by omega) ?_
  refine lv_ladd hx hb dX1_digest_31 ?_
  refine nv_topl (show (((dg_ (1913) (lN (vs_c v))) * (lN (31))) + (lN (vs_n v)) : Int64) = dg_ (dg_ (1913) (lN (vs_c v))) (lN (vs_n v)) from by rfl) ?_
  refine lv_lstore_n (lv' := [(1, .long (dg_ (dg_ (1913) (lN (vs_c v))) (lN (vs_n v)))), (0, .ref (b 0))]) hx hb dX1_digest_32 rfl hl (by decide) rfl (fun ls hl => ?_)
  refine lv_lload_n hx hb dX1_digest_33 rfl (lv_at hl 0 rfl) ?_
  refine lv_ldc2 (own := RX1) (index := 144) (v := lN (31)) hx hb hown (hts _ q_k_X1_144) dX1_digest_34 ?_
  refine lv_lmul hx hb dX1_digest_37 ?_
  refine lv_aload_n hx hb dX1_digest_38 rfl (lv_at hl 1 rfl) ?_
  refine va_get (D := D) (ci := 1) (v := .int (nI (vs_t v))) (C := RX1) (T := TX1) (N := 8) hx hb hts i_X1 hown hK hP 0 rfl rfl 3 (by decide) (hts _ q_f_X1_33) (fun _ h9 => h9) rfl dX1_digest_39 ?_
  refine nv_i2l hx hb dX1_digest_42 (by omega) ?_
  refine lv_ladd hx hb dX1_digest_43 ?_
  refine nv_topl (show (((dg_ (dg_ (1913) (lN (vs_c v))) (lN (vs_n v))) * (lN (31))) + (lN (vs_t v)) : Int64) = dg_ (dg_ (dg_ (1913) (lN (vs_c v))) (lN (vs_n v))) (lN (vs_t v)) from by rfl) ?_
  refine lv_lstore_n (lv' := [(1, .long (dg_ (dg_ (dg_ (1913) (lN (vs_c v))) (lN (vs_n v))) (lN (vs_t v)))), (0, .ref (b 0))]) hx hb dX1_digest_44 rfl hl (by decide) rfl (fun ls hl => ?_)
  refine lv_lload_n hx hb dX1_digest_45 rfl (lv_at hl 0 rfl) ?_
  refine lv_ldc2 (own := RX1) (index := 144) (v := lN (31)) hx hb hown (hts _ q_k_X1_144) dX1_digest_46 ?_
  refine lv_lmul hx hb dX1_digest_49 ?_
  refine lv_aload_n hx hb dX1_digest_50 rfl (lv_at hl 1 rfl) ?_
  refine rd_V (rest := [.long ((dg_ (dg_ (dg_ (1913) (lN (vs_c v))) (lN (vs_n v))) (lN (vs_t v))) * (lN (31)))]) ⟨hx, hb, hml, hown, hts⟩ (c_X1_headsNow l D κ b 0 v hv) g_X1_69 n_X1_headsNow ⟨Nat.le_of_ble_eq_true rfl, Nat.le_of_ble_eq_true rfl⟩ hK hP rfl rfl rfl hl.1 rfl (Nat.le_of_ble_eq_true rfl) dX1_digest_51 ⟨Nat.zero_le _, Nat.zero_le _⟩ ?_
  refine nv_i2l hx hb dX1_digest_54 (by omega) ?_
  refine lv_ladd hx hb dX1_digest_55 ?_
  refine nv_topl (show (((dg_ (dg_ (dg_ (1913) (lN (vs_c v))) (lN (vs_n v))) (lN (vs_t v))) * (lN (31))) + (lN (hh_ v)) : Int64) = dg_ (dg_ (dg_ (dg_ (1913) (lN (vs_c v))) (lN (vs_n v))) (lN (vs_t v))) (lN (hh_ v)) from by rfl) ?_
  refine lv_lstore_n (lv' := [(1, .long (dg_ (dg_ (dg_ (dg_ (1913) (lN (vs_c v))) (lN (vs_n v))) (lN (vs_t v))) (lN (hh_ v)))), (0, .ref (b 0))]) hx hb dX1_digest_56 rfl hl (by decide) rfl (fun ls hl => ?_)
  refine lv_lload_n hx hb dX1_digest_57 rfl (lv_at hl 0 rfl) ?_
  refine lv_ldc2 (own := RX1) (index := 144) (v := lN (31)) hx hb hown (hts _ q_k_X1_144) dX1_digest_58 ?_
  refine lv_lmul hx hb dX1_digest_61 ?_
  refine lv_aload_n hx hb dX1_digest_62 rfl (lv_at hl 1 rfl) ?_
  refine rd_V (rest := [.long ((dg_ (dg_ (dg_ (dg_ (1913) (lN (vs_c v))) (lN (vs_n v))) (lN (vs_t v))) (lN (hh_ v))) * (lN (31)))]) ⟨hx, hb, hml, hown, hts⟩ (c_X1_all l D κ b 0 v hv) g_X1_113 n_X1_all ⟨Nat.le_of_ble_eq_true rfl, Nat.le_of_ble_eq_true rfl⟩ hK hP rfl rfl rfl hl.1 rfl (Nat.le_of_ble_eq_true rfl) dX1_digest_63 ⟨Nat.zero_le _, Nat.zero_le _⟩ ?_
  refine lv_ladd hx hb dX1_digest_66 ?_
  refine nv_topl (show (((dg_ (dg_ (dg_ (dg_ (1913) (lN (vs_c v))) (lN (vs_n v))) (lN (vs_t v))) (lN (hh_ v))) * (lN (31))) + (lN (wl_ v (hh_ v) (tt_ v))) : Int64) = dg_ (dg_ (dg_ (dg_ (dg_ (1913) (lN (vs_c v))) (lN (vs_n v))) (lN (vs_t v))) (lN (hh_ v))) (lN (wl_ v (hh_ v) (tt_ v))) from by rfl) ?_
  refine lv_lstore_n (lv' := [(1, .long (dg_ (dg_ (dg_ (dg_ (dg_ (1913) (lN (vs_c v))) (lN (vs_n v))) (lN (vs_t v))) (lN (hh_ v))) (lN (wl_ v (hh_ v) (tt_ v))))), (0, .ref (b 0))]) hx hb dX1_digest_67 rfl hl (by decide) rfl (fun ls hl => ?_)
  refine lv_lload_n hx hb dX1_digest_68 rfl (lv_at hl 0 rfl) ?_
  refine lv_ldc2 (own := RX1) (index := 144) (v := lN (31)) hx hb hown (hts _ q_k_X1_144) dX1_digest_69 ?_
  refine lv_lmul hx hb dX1_digest_72 ?_
  refine lv_aload_n hx hb dX1_digest_73 rfl (lv_at hl 1 rfl) ?_
  refine rd_V (rest := [.long ((dg_ (dg_ (dg_ (dg_ (dg_ (1913) (lN (vs_c v))) (lN (vs_n v))) (lN (vs_t v))) (lN (hh_ v))) (lN (wl_ v (hh_ v) (tt_ v)))) * (lN (31)))]) ⟨hx, hb, hml, hown, hts⟩ (c_X1_gone l D κ b 0 v hv) g_X1_117 n_X1_gone ⟨Nat.le_of_ble_eq_true rfl, Nat.le_of_ble_eq_true rfl⟩ hK hP rfl rfl rfl hl.1 rfl (Nat.le_of_ble_eq_true rfl) dX1_digest_74 ⟨Nat.zero_le _, Nat.zero_le _⟩ ?_
  refine nv_i2l hx hb dX1_digest_77 (by omega) ?_
  refine lv_ladd hx hb dX1_digest_78 ?_
  refine nv_topl (show (((dg_ (dg_ (dg_ (dg_ (dg_ (1913) (lN (vs_c v))) (lN (vs_n v))) (lN (vs_t v))) (lN (hh_ v))) (lN (wl_ v (hh_ v) (tt_ v)))) * (lN (31))) + (lN (go_ v)) : Int64) = dg_ (dg_ (dg_ (dg_ (dg_ (dg_ (1913) (lN (vs_c v))) (lN (vs_n v))) (lN (vs_t v))) (lN (hh_ v))) (lN (wl_ v (hh_ v) (tt_ v)))) (lN (go_ v)) from by rfl) ?_
  refine lv_lstore_n (lv' := [(1, .long (dg_ (dg_ (dg_ (dg_ (dg_ (dg_ (1913) (lN (vs_c v))) (lN (vs_n v))) (lN (vs_t v))) (lN (hh_ v))) (lN (wl_ v (hh_ v) (tt_ v)))) (lN (go_ v)))), (0, .ref (b 0))]) hx hb dX1_digest_79 rfl hl (by decide) rfl (fun ls hl => ?_)
  refine lv_lload_n hx hb dX1_digest_80 rfl (lv_at hl 0 rfl) ?_
  refine lv_ldc2 (own := RX1) (index := 144) (v := lN (31)) hx hb hown (hts _ q_k_X1_144) dX1_digest_81 ?_
  refine lv_lmul hx hb dX1_digest_84 ?_
  refine lv_aload_n hx hb dX1_digest_85 rfl (lv_at hl 1 rfl) ?_
  refine rd_V (rest := [.long ((dg_ (dg_ (dg_ (dg_ (dg_ (dg_ (1913) (lN (vs_c v))) (lN (vs_n v))) (lN (vs_t v))) (lN (hh_ v))) (lN (wl_ v (hh_ v) (tt_ v)))) (lN (go_ v))) * (lN (31)))]) ⟨hx, hb, hml, hown, hts⟩ (c_X1_surprises l D κ b 0 v hv (hpp)) g_X1_130 n_X1_surprises ⟨Nat.le_of_ble_eq_true rfl, Nat.le_of_ble_eq_true rfl⟩ hK hP rfl rfl rfl hl.1 rfl (Nat.le_of_ble_eq_true rfl) dX1_digest_86 ⟨Nat.zero_le _, Nat.zero_le _⟩ ?_
  refine nv_i2l hx hb dX1_digest_89 (by omega) ?_
  refine lv_ladd hx hb dX1_digest_90 ?_
  refine nv_topl (show (((dg_ (dg_ (dg_ (dg_ (dg_ (dg_ (1913) (lN (vs_c v))) (lN (vs_n v))) (lN (vs_t v))) (lN (hh_ v))) (lN (wl_ v (hh_ v) (tt_ v)))) (lN (go_ v))) * (lN (31))) + (lN (as_ v)) : Int64) = dg_ (dg_ (dg_ (dg_ (dg_ (dg_ (dg_ (1913) (lN (vs_c v))) (lN (vs_n v))) (lN (vs_t v))) (lN (hh_ v))) (lN (wl_ v (hh_ v) (tt_ v)))) (lN (go_ v))) (lN (as_ v)) from by rfl) ?_
  refine lv_lstore_n (lv' := [(1, .long (dg_ (dg_ (dg_ (dg_ (dg_ (dg_ (dg_ (1913) (lN (vs_c v))) (lN (vs_n v))) (lN (vs_t v))) (lN (hh_ v))) (lN (wl_ v (hh_ v) (tt_ v)))) (lN (go_ v))) (lN (as_ v)))), (0, .ref (b 0))]) hx hb dX1_digest_91 rfl hl (by decide) rfl (fun ls hl => ?_)
  refine lv_lload_n hx hb dX1_digest_92 rfl (lv_at hl 0 rfl) ?_
  refine lv_ldc2 (own := RX1) (index := 144) (v := lN (31)) hx hb hown (hts _ q_k_X1_144) dX1_digest_93 ?_
  refine lv_lmul hx hb dX1_digest_96 ?_
  refine lv_aload_n hx hb dX1_digest_97 rfl (lv_at hl 1 rfl) ?_
  refine rd_V (rest := [.long ((dg_ (dg_ (dg_ (dg_ (dg_ (dg_ (dg_ (1913) (lN (vs_c v))) (lN (vs_n v))) (lN (vs_t v))) (lN (hh_ v))) (lN (wl_ v (hh_ v) (tt_ v)))) (lN (go_ v))) (lN (as_ v))) * (lN (31)))]) ⟨hx, hb, hml, hown, hts⟩ (c_X1_decisive l D κ b 0 v hv) g_X1_139 n_X1_decisive ⟨Nat.le_of_ble_eq_true rfl, Nat.le_of_ble_eq_true rfl⟩ hK hP rfl rfl rfl hl.1 rfl (Nat.le_of_ble_eq_true rfl) dX1_digest_98 ⟨Nat.zero_le _, Nat.zero_le _⟩ ?_
  refine nv_i2l hx hb dX1_digest_101 (by omega) ?_
  refine lv_ladd hx hb dX1_digest_102 ?_
  refine nv_topl (show (((dg_ (dg_ (dg_ (dg_ (dg_ (dg_ (dg_ (1913) (lN (vs_c v))) (lN (vs_n v))) (lN (vs_t v))) (lN (hh_ v))) (lN (wl_ v (hh_ v) (tt_ v)))) (lN (go_ v))) (lN (as_ v))) * (lN (31))) + (lN (dc_ v)) : Int64) = dg_ (dg_ (dg_ (dg_ (dg_ (dg_ (dg_ (dg_ (1913) (lN (vs_c v))) (lN (vs_n v))) (lN (vs_t v))) (lN (hh_ v))) (lN (wl_ v (hh_ v) (tt_ v)))) (lN (go_ v))) (lN (as_ v))) (lN (dc_ v)) from by rfl) ?_
  refine lv_lstore_n (lv' := [(1, .long (dg_ (dg_ (dg_ (dg_ (dg_ (dg_ (dg_ (dg_ (1913) (lN (vs_c v))) (lN (vs_n v))) (lN (vs_t v))) (lN (hh_ v))) (lN (wl_ v (hh_ v) (tt_ v)))) (lN (go_ v))) (lN (as_ v))) (lN (dc_ v)))), (0, .ref (b 0))]) hx hb dX1_digest_103 rfl hl (by decide) rfl (fun ls hl => ?_)
  refine lv_iconst (v := nI (0)) hx hb dX1_digest_104 (by decide) ?_
  refine lv_istore_n (lv' := [(3, .int (nI (0))), (1, .long (dg_ (dg_ (dg_ (dg_ (dg_ (dg_ (dg_ (dg_ (1913) (lN (vs_c v))) (lN (vs_n v))) (lN (vs_t v))) (lN (hh_ v))) (lN (wl_ v (hh_ v) (tt_ v)))) (lN (go_ v))) (lN (as_ v))) (lN (dc_ v)))), (0, .ref (b 0))]) hx hb dX1_digest_105 rfl hl (by decide) rfl (fun ls hl => ?_)
  suffices hloop_106 : ∀ (n_106 i : Nat) (ls : Array Slot) (H : Heap) (locs : List Loc), i + n_106 = vs_c v → lv_has ls 5 [(0, .ref (b 0)), (1, .long (dC_ v (dH_ v) i)), (3, .int (nI (i)))] → va_P D vwCl (mw κ b 0 v) H → va_S (ma_ b) s.heap H locs → W p l e (rm_ 8 190) s m args below meth c H locs 0 0 Qq (F0 m 106 ls []) from hloop_106 (vs_c v - 0) (0) ls H locs (by omega) (lv_cast (k := [(0, .ref (b 0)), (1, .long (dg_ (dg_ (dg_ (dg_ (dg_ (dg_ (dg_ (dg_ (1913) (lN (vs_c v))) (lN (vs_n v))) (lN (vs_t v))) (lN (hh_ v))) (lN (wl_ v (hh_ v) (tt_ v)))) (lN (go_ v))) (lN (as_ v))) (lN (dc_ v)))), (3, .int (nI (0)))]) (lv_sub hl [2, 1, 0] rfl) (lc_cons rfl (lc_cons (congrArg (fun z : Int64 => ((1 : Nat), Value.long z)) (show (dg_ (dg_ (dg_ (dg_ (dg_ (dg_ (dg_ (dg_ (1913) (lN (vs_c v))) (lN (vs_n v))) (lN (vs_t v))) (lN (hh_ v))) (lN (wl_ v (hh_ v) (tt_ v)))) (lN (go_ v))) (lN (as_ v))) (lN (dc_ v)) : Int64) = dC_ v (dH_ v) 0 from by rfl)) (lc_cons rfl rfl)))) (hP) hS
  intro n_106
  induction n_106 with
  | zero =>
    intro i ls H locs hin_106 hl hP hS
    have hi_106 : i = vs_c v := by omega
    have h4 := hv4 i
    refine lv_iload_n hx hb dX1_digest_106 rfl (lv_at hl 2 rfl) ?_
    refine lv_aload_n hx hb dX1_digest_107 rfl (lv_at hl 0 rfl) ?_
    refine va_get (D := D) (ci := 1) (v := .int (nI (vs_c v))) (C := RX1) (T := TX1) (N := 8) hx hb hts i_X1 hown hK hP 0 rfl rfl 1 (by decide) (hts _ q_f_X1_23) (fun _ h9 => h9) rfl dX1_digest_108 ?_
    refine nv_icmp_ge (tgt := 159) hx hb dX1_digest_111 (by decide) (by omega) (by omega) (fun c_111 => ?_) (fun z => absurd z (by omega))
    refine lv_iconst (v := nI (0)) hx hb dX1_digest_159 (by decide) ?_
    refine lv_istore_n (lv' := [(3, .int (nI (0))), (0, .ref (b 0)), (1, .long (dC_ v (dH_ v) i))]) hx hb dX1_digest_160 rfl hl (by decide) rfl (fun ls hl => ?_)
    suffices hloop_161 : ∀ (n_161 g2 : Nat) (ls : Array Slot) (H : Heap) (locs : List Loc), g2 + n_161 = vs_n v → lv_has ls 5 [(0, .ref (b 0)), (1, .long (dS_ v (dC_ v (dH_ v) (vs_c v)) g2)), (3, .int (nI (g2)))] → va_P D vwCl (mw κ b 0 v) H → va_S (ma_ b) s.heap H locs → W p l e (rm_ 8 190) s m args below meth c H locs 0 0 Qq (F0 m 161 ls []) from hloop_161 (vs_n v - 0) (0) ls H locs (by omega) (lv_cast (k := [(0, .ref (b 0)), (1, .long (dC_ v (dH_ v) i)), (3, .int (nI (0)))]) (lv_sub hl [1, 2, 0] rfl) (lc_cons rfl (lc_cons (congrArg (fun z : Int64 => ((1 : Nat), Value.long z)) (show (dC_ v (dH_ v) i : Int64) = dS_ v (dC_ v (dH_ v) (vs_c v)) 0 from by rw [hi_106]; rfl)) (lc_cons rfl rfl)))) (hP) hS
    intro n_161
    induction n_161 with
    | zero =>
      intro g2 ls H locs hin_161 hl hP hS
      have hi_161 : g2 = vs_n v := by omega
      have h5 := hv5 g2
      refine lv_iload_n hx hb dX1_digest_161 rfl (lv_at hl 2 rfl) ?_
      refine lv_aload_n hx hb dX1_digest_162 rfl (lv_at hl 0 rfl) ?_
      refine va_get (D := D) (ci := 1) (v := .int (nI (vs_n v))) (C := RX1) (T := TX1) (N := 8) hx hb hts i_X1 hown hK hP 0 rfl rfl 2 (by decide) (hts _ q_f_X1_30) (fun _ h9 => h9) rfl dX1_digest_163 ?_
      refine nv_icmp_ge (tgt := 238) hx hb dX1_digest_166 (by decide) (by omega) (by omega) (fun c_166 => ?_) (fun z => absurd z (by omega))
      refine lv_iconst (v := nI (0)) hx hb dX1_digest_238 (by decide) ?_
      refine lv_istore_n (lv' := [(3, .int (nI (0))), (0, .ref (b 0)), (1, .long (dS_ v (dC_ v (dH_ v) (vs_c v)) g2))]) hx hb dX1_digest_239 rfl hl (by decide) rfl (fun ls hl => ?_)
      suffices hloop_240 : ∀ (n_240 g3 : Nat) (ls : Array Slot) (H : Heap) (locs : List Loc), g3 + n_240 = vs_t v → lv_has ls 5 [(0, .ref (b 0)), (1, .long (dT_ v (dS_ v (dC_ v (dH_ v) (vs_c v)) (vs_n v)) g3)), (3, .int (nI (g3)))] → va_P D vwCl (mw κ b 0 v) H → va_S (ma_ b) s.heap H locs → W p l e (rm_ 8 190) s m args below meth c H locs 0 0 Qq (F0 m 240 ls []) from hloop_240 (vs_t v - 0) (0) ls H locs (by omega) (lv_cast (k := [(0, .ref (b 0)), (1, .long (dS_ v (dC_ v (dH_ v) (vs_c v)) g2)), (3, .int (nI (0)))]) (lv_sub hl [1, 2, 0] rfl) (lc_cons rfl (lc_cons (congrArg (fun z : Int64 => ((1 : Nat), Value.long z)) (show (dS_ v (dC_ v (dH_ v) (vs_c v)) g2 : Int64) = dT_ v (dS_ v (dC_ v (dH_ v) (vs_c v)) (vs_n v)) 0 from by rw [hi_161]; rfl)) (lc_cons rfl rfl)))) (hP) hS
      intro n_240
      induction n_240 with
      | zero =>
        intro g3 ls H locs hin_240 hl hP hS
        have hi_240 : g3 = vs_t v := by omega
        have h7 := sa_le v g3
        refine lv_iload_n hx hb dX1_digest_240 rfl (lv_at hl 2 rfl) ?_
        refine lv_aload_n hx hb dX1_digest_241 rfl (lv_at hl 0 rfl) ?_
        refine va_get (D := D) (ci := 1) (v := .int (nI (vs_t v))) (C := RX1) (T := TX1) (N := 8) hx hb hts i_X1 hown hK hP 0 rfl rfl 3 (by decide) (hts _ q_f_X1_33) (fun _ h9 => h9) rfl dX1_digest_242 ?_
        refine nv_icmp_ge (tgt := 288) hx hb dX1_digest_245 (by decide) (by omega) (by omega) (fun c_245 => ?_) (fun z => absurd z (by omega))
        refine lv_lload_n hx hb dX1_digest_288 rfl (lv_at hl 1 rfl) ?_
        refine nv_topl (show (dT_ v (dS_ v (dC_ v (dH_ v) (vs_c v)) (vs_n v)) g3 : Int64) = di_ v from by rw [hi_240]; rfl) ?_
        exact hend _ _ _ _ dX1_digest_289 hP hS
      | succ n_240 ih_240 =>
        intro g3 ls H locs hin_240 hl hP hS
        have h7 := sa_le v g3
        refine lv_iload_n hx hb dX1_digest_240 rfl (lv_at hl 2 rfl) ?_
        refine lv_aload_n hx hb dX1_digest_241 rfl (lv_at hl 0 rfl) ?_
        refine va_get (D := D) (ci := 1) (v := .int (nI (vs_t v))) (C := RX1) (T := TX1) (N := 8) hx hb hts i_X1 hown hK hP 0 rfl rfl 3 (by decide) (hts _ q_f_X1_33) (fun _ h9 => h9) rfl dX1_digest_242 ?_
        refine nv_icmp_ge (tgt := 288) hx hb dX1_digest_245 (by decide) (by omega) (by omega) (fun z => absurd z (by omega)) (fun c_245 => ?_)
        refine lv_lload_n hx hb dX1_digest_248 rfl (lv_at hl 1 rfl) ?_
        refine lv_ldc2 (own := RX1) (index := 144) (v := lN (31)) hx hb hown (hts _ q_k_X1_144) dX1_digest_249 ?_
        refine lv_lmul hx hb dX1_digest_252 ?_
        refine lv_aload_n hx hb dX1_digest_253 rfl (lv_at hl 0 rfl) ?_
        refine lv_iload_n hx hb dX1_digest_254 rfl (lv_at hl 2 rfl) ?_
        refine rd_V (rest := [.long ((dT_ v (dS_ v (dC_ v (dH_ v) (vs_c v)) (vs_n v)) g3) * (lN (31)))]) ⟨hx, hb, hml, hown, hts⟩ (c_X1_isUp l D κ b 0 v hv (g3) (by omega)) g_X1_100 n_X1_isUp ⟨Nat.le_of_ble_eq_true rfl, Nat.le_of_ble_eq_true rfl⟩ hK hP rfl rfl rfl hl.1 rfl (Nat.le_of_ble_eq_true rfl) dX1_digest_255 ⟨Nat.zero_le _, Nat.zero_le _⟩ ?_
        refine bv_if_eq (tgt := 265) hx hb dX1_digest_258 (by decide) (fun c_258 => ?_) (fun c_258 => ?_)
        · refine lv_iconst (v := nI (0)) hx hb dX1_digest_265 (by decide) ?_
          refine nv_i2l hx hb dX1_digest_266 (by omega) ?_
          refine nv_topl (congrArg lN (show (0 : Nat) = if vs_th v g3 then 1 else 0 from by simp [c_258])) ?_
          refine lv_ladd hx hb dX1_digest_267 ?_
          refine nv_topl (show (((dT_ v (dS_ v (dC_ v (dH_ v) (vs_c v)) (vs_n v)) g3) * (lN (31))) + (lN (if vs_th v g3 then 1 else 0)) : Int64) = dg_ (dT_ v (dS_ v (dC_ v (dH_ v) (vs_c v)) (vs_n v)) g3) (lN (if vs_th v g3 then 1 else 0)) from by rfl) ?_
          refine lv_lstore_n (lv' := [(1, .long (dg_ (dT_ v (dS_ v (dC_ v (dH_ v) (vs_c v)) (vs_n v)) g3) (lN (if vs_th v g3 then 1 else 0)))), (0, .ref (b 0)), (3, .int (nI (g3)))]) hx hb dX1_digest_268 rfl hl (by decide) rfl (fun ls hl => ?_)
          refine lv_lload_n hx hb dX1_digest_269 rfl (lv_at hl 0 rfl) ?_
          refine lv_ldc2 (own := RX1) (index := 144) (v := lN (31)) hx hb hown (hts _ q_k_X1_144) dX1_digest_270 ?_
          refine lv_lmul hx hb dX1_digest_273 ?_
          refine lv_aload_n hx hb dX1_digest_274 rfl (lv_at hl 1 rfl) ?_
          refine lv_iload_n hx hb dX1_digest_275 rfl (lv_at hl 2 rfl) ?_
          refine rd_V (rest := [.long ((dg_ (dT_ v (dS_ v (dC_ v (dH_ v) (vs_c v)) (vs_n v)) g3) (lN (if vs_th v g3 then 1 else 0))) * (lN (31)))]) ⟨hx, hb, hml, hown, hts⟩ (c_X1_surprise_ l D κ b 0 v hv (g3) (by omega) (hpp g3 (by omega))) g_X1_128 n_X1_surprise_ ⟨Nat.le_of_ble_eq_true rfl, Nat.le_of_ble_eq_true rfl⟩ hK hP rfl rfl rfl hl.1 rfl (Nat.le_of_ble_eq_true rfl) dX1_digest_276 ⟨Nat.zero_le _, Nat.zero_le _⟩ ?_
          refine nv_i2l hx hb dX1_digest_279 (by omega) ?_
          refine lv_ladd hx hb dX1_digest_280 ?_
          refine nv_topl (show (((dg_ (dT_ v (dS_ v (dC_ v (dH_ v) (vs_c v)) (vs_n v)) g3) (lN (if vs_th v g3 then 1 else 0))) * (lN (31))) + (lN (sa_ v g3)) : Int64) = dg_ (dg_ (dT_ v (dS_ v (dC_ v (dH_ v) (vs_c v)) (vs_n v)) g3) (lN (if vs_th v g3 then 1 else 0))) (lN (sa_ v g3)) from by rfl) ?_
          refine lv_lstore_n (lv' := [(1, .long (dg_ (dg_ (dT_ v (dS_ v (dC_ v (dH_ v) (vs_c v)) (vs_n v)) g3) (lN (if vs_th v g3 then 1 else 0))) (lN (sa_ v g3)))), (0, .ref (b 0)), (3, .int (nI (g3)))]) hx hb dX1_digest_281 rfl hl (by decide) rfl (fun ls hl => ?_)
          refine lv_iinc (v := nI (g3 + 1)) (lv' := [(3, .int (nI (g3 + 1))), (1, .long (dg_ (dg_ (dT_ v (dS_ v (dC_ v (dH_ v) (vs_c v)) (vs_n v)) g3) (lN (if vs_th v g3 then 1 else 0))) (lN (sa_ v g3)))), (0, .ref (b 0))]) hx hb dX1_digest_282 hl (k := 2) rfl (nI_add _ _) (by decide) rfl (fun ls hl => ?_)
          refine lv_goto (tgt := 240) hx hb dX1_digest_285 (by decide) ?_
          exact ih_240 (g3 + 1) ls _ _ (by omega) (lv_cast (k := [(0, .ref (b 0)), (1, .long (dg_ (dg_ (dT_ v (dS_ v (dC_ v (dH_ v) (vs_c v)) (vs_n v)) g3) (lN (if vs_th v g3 then 1 else 0))) (lN (sa_ v g3)))), (3, .int (nI (g3 + 1)))]) (lv_sub hl [2, 1, 0] rfl) (lc_cons rfl (lc_cons (congrArg (fun z : Int64 => ((1 : Nat), Value.long z)) (show (dg_ (dg_ (dT_ v (dS_ v (dC_ v (dH_ v) (vs_c v)) (vs_n v)) g3) (lN (if vs_th v g3 then 1 else 0))) (lN (sa_ v g3)) : Int64) = dT_ v (dS_ v (dC_ v (dH_ v) (vs_c v)) (vs_n v)) (g3 + 1) from by rfl)) (lc_cons (congrArg (fun z : Nat => ((3 : Nat), Value.int (nI z))) (show (g3 + 1 : Nat) = (g3 + 1) from by first | rfl | omega)) rfl)))) (hP) hS
        · refine lv_iconst (v := nI (1)) hx hb dX1_digest_261 (by decide) ?_
          refine lv_goto (tgt := 266) hx hb dX1_digest_262 (by decide) ?_
          refine nv_i2l hx hb dX1_digest_266 (by omega) ?_
          refine nv_topl (congrArg lN (show (1 : Nat) = if vs_th v g3 then 1 else 0 from by simp [c_258])) ?_
          refine lv_ladd hx hb dX1_digest_267 ?_
          refine nv_topl (show (((dT_ v (dS_ v (dC_ v (dH_ v) (vs_c v)) (vs_n v)) g3) * (lN (31))) + (lN (if vs_th v g3 then 1 else 0)) : Int64) = dg_ (dT_ v (dS_ v (dC_ v (dH_ v) (vs_c v)) (vs_n v)) g3) (lN (if vs_th v g3 then 1 else 0)) from by rfl) ?_
          refine lv_lstore_n (lv' := [(1, .long (dg_ (dT_ v (dS_ v (dC_ v (dH_ v) (vs_c v)) (vs_n v)) g3) (lN (if vs_th v g3 then 1 else 0)))), (0, .ref (b 0)), (3, .int (nI (g3)))]) hx hb dX1_digest_268 rfl hl (by decide) rfl (fun ls hl => ?_)
          refine lv_lload_n hx hb dX1_digest_269 rfl (lv_at hl 0 rfl) ?_
          refine lv_ldc2 (own := RX1) (index := 144) (v := lN (31)) hx hb hown (hts _ q_k_X1_144) dX1_digest_270 ?_
          refine lv_lmul hx hb dX1_digest_273 ?_
          refine lv_aload_n hx hb dX1_digest_274 rfl (lv_at hl 1 rfl) ?_
          refine lv_iload_n hx hb dX1_digest_275 rfl (lv_at hl 2 rfl) ?_
          refine rd_V (rest := [.long ((dg_ (dT_ v (dS_ v (dC_ v (dH_ v) (vs_c v)) (vs_n v)) g3) (lN (if vs_th v g3 then 1 else 0))) * (lN (31)))]) ⟨hx, hb, hml, hown, hts⟩ (c_X1_surprise_ l D κ b 0 v hv (g3) (by omega) (hpp g3 (by omega))) g_X1_128 n_X1_surprise_ ⟨Nat.le_of_ble_eq_true rfl, Nat.le_of_ble_eq_true rfl⟩ hK hP rfl rfl rfl hl.1 rfl (Nat.le_of_ble_eq_true rfl) dX1_digest_276 ⟨Nat.zero_le _, Nat.zero_le _⟩ ?_
          refine nv_i2l hx hb dX1_digest_279 (by omega) ?_
          refine lv_ladd hx hb dX1_digest_280 ?_
          refine nv_topl (show (((dg_ (dT_ v (dS_ v (dC_ v (dH_ v) (vs_c v)) (vs_n v)) g3) (lN (if vs_th v g3 then 1 else 0))) * (lN (31))) + (lN (sa_ v g3)) : Int64) = dg_ (dg_ (dT_ v (dS_ v (dC_ v (dH_ v) (vs_c v)) (vs_n v)) g3) (lN (if vs_th v g3 then 1 else 0))) (lN (sa_ v g3)) from by rfl) ?_
          refine lv_lstore_n (lv' := [(1, .long (dg_ (dg_ (dT_ v (dS_ v (dC_ v (dH_ v) (vs_c v)) (vs_n v)) g3) (lN (if vs_th v g3 then 1 else 0))) (lN (sa_ v g3)))), (0, .ref (b 0)), (3, .int (nI (g3)))]) hx hb dX1_digest_281 rfl hl (by decide) rfl (fun ls hl => ?_)
          refine lv_iinc (v := nI (g3 + 1)) (lv' := [(3, .int (nI (g3 + 1))), (1, .long (dg_ (dg_ (dT_ v (dS_ v (dC_ v (dH_ v) (vs_c v)) (vs_n v)) g3) (lN (if vs_th v g3 then 1 else 0))) (lN (sa_ v g3)))), (0, .ref (b 0))]) hx hb dX1_digest_282 hl (k := 2) rfl (nI_add _ _) (by decide) rfl (fun ls hl => ?_)
          refine lv_goto (tgt := 240) hx hb dX1_digest_285 (by decide) ?_
          exact ih_240 (g3 + 1) ls _ _ (by omega) (lv_cast (k := [(0, .ref (b 0)), (1, .long (dg_ (dg_ (dT_ v (dS_ v (dC_ v (dH_ v) (vs_c v)) (vs_n v)) g3) (lN (if vs_th v g3 then 1 else 0))) (lN (sa_ v g3)))), (3, .int (nI (g3 + 1)))]) (lv_sub hl [2, 1, 0] rfl) (lc_cons rfl (lc_cons (congrArg (fun z : Int64 => ((1 : Nat), Value.long z)) (show (dg_ (dg_ (dT_ v (dS_ v (dC_ v (dH_ v) (vs_c v)) (vs_n v)) g3) (lN (if vs_th v g3 then 1 else 0))) (lN (sa_ v g3)) : Int64) = dT_ v (dS_ v (dC_ v (dH_ v) (vs_c v)) (vs_n v)) (g3 + 1) from by rfl)) (lc_cons (congrArg (fun z : Nat => ((3 : Nat), Value.int (nI z))) (show (g3 + 1 : Nat) = (g3 + 1) from by first | rfl | omega)) rfl)))) (hP) hS
    | succ n_161 ih_161 =>
      intro g2 ls H locs hin_161 hl hP hS
      have h5 := hv5 g2
      refine lv_iload_n hx hb dX1_digest_161 rfl (lv_at hl 2 rfl) ?_
      refine lv_aload_n hx hb dX1_digest_162 rfl (lv_at hl 0 rfl) ?_
      refine va_get (D := D) (ci := 1) (v := .int (nI (vs_n v))) (C := RX1) (T := TX1) (N := 8) hx hb hts i_X1 hown hK hP 0 rfl rfl 2 (by decide) (hts _ q_f_X1_30) (fun _ h9 => h9) rfl dX1_digest_163 ?_
      refine nv_icmp_ge (tgt := 238) hx hb dX1_digest_166 (by decide) (by omega) (by omega) (fun z => absurd z (by omega)) (fun c_166 => ?_)
      refine lv_lload_n hx hb dX1_digest_169 rfl (lv_at hl 1 rfl) ?_
      refine lv_ldc2 (own := RX1) (index := 144) (v := lN (31)) hx hb hown (hts _ q_k_X1_144) dX1_digest_170 ?_
      refine lv_lmul hx hb dX1_digest_173 ?_
      refine lv_aload_n hx hb dX1_digest_174 rfl (lv_at hl 0 rfl) ?_
      refine va_get (D := D) (ci := 1) (v := .ref (b 2)) (C := RX1) (T := TX1) (N := 8) hx hb hts i_X1 hown hK hP 0 rfl rfl 6 (by decide) (hts _ q_f_X1_13) (fun _ h9 => h9) rfl dX1_digest_175 ?_
      refine lv_iload_n hx hb dX1_digest_178 rfl (lv_at hl 2 rfl) ?_
      refine nv_iald hx hb hK hP 2 0 (n := 4) (v := nI (vs_so v g2)) rfl rfl (by omega) (by decide) rfl dX1_digest_179 ?_
      refine nv_i2l hx hb dX1_digest_180 (by omega) ?_
      refine lv_ladd hx hb dX1_digest_181 ?_
      refine nv_topl (show (((dS_ v (dC_ v (dH_ v) (vs_c v)) g2) * (lN (31))) + (lN (vs_so v g2)) : Int64) = dg_ (dS_ v (dC_ v (dH_ v) (vs_c v)) g2) (lN (vs_so v g2)) from by rfl) ?_
      refine lv_lstore_n (lv' := [(1, .long (dg_ (dS_ v (dC_ v (dH_ v) (vs_c v)) g2) (lN (vs_so v g2)))), (0, .ref (b 0)), (3, .int (nI (g2)))]) hx hb dX1_digest_182 rfl hl (by decide) rfl (fun ls hl => ?_)
      refine lv_lload_n hx hb dX1_digest_183 rfl (lv_at hl 0 rfl) ?_
      refine lv_ldc2 (own := RX1) (index := 144) (v := lN (31)) hx hb hown (hts _ q_k_X1_144) dX1_digest_184 ?_
      refine lv_lmul hx hb dX1_digest_187 ?_
      refine lv_aload_n hx hb dX1_digest_188 rfl (lv_at hl 1 rfl) ?_
      refine lv_iload_n hx hb dX1_digest_189 rfl (lv_at hl 2 rfl) ?_
      refine rd_V (rest := [.long ((dg_ (dS_ v (dC_ v (dH_ v) (vs_c v)) g2) (lN (vs_so v g2))) * (lN (31)))]) ⟨hx, hb, hml, hown, hts⟩ (c_X1_schoolHere l D κ b 0 v hv (g2) (by omega)) g_X1_110 n_X1_schoolHere ⟨Nat.le_of_ble_eq_true rfl, Nat.le_of_ble_eq_true rfl⟩ hK hP rfl rfl rfl hl.1 rfl (Nat.le_of_ble_eq_true rfl) dX1_digest_190 ⟨Nat.zero_le _, Nat.zero_le _⟩ ?_
      refine lv_ladd hx hb dX1_digest_193 ?_
      refine nv_topl (show (((dg_ (dS_ v (dC_ v (dH_ v) (vs_c v)) g2) (lN (vs_so v g2))) * (lN (31))) + (lN (sc_ v g2 (hh_ v) (tt_ v))) : Int64) = dg_ (dg_ (dS_ v (dC_ v (dH_ v) (vs_c v)) g2) (lN (vs_so v g2))) (lN (sc_ v g2 (hh_ v) (tt_ v))) from by rfl) ?_
      refine lv_lstore_n (lv' := [(1, .long (dg_ (dg_ (dS_ v (dC_ v (dH_ v) (vs_c v)) g2) (lN (vs_so v g2))) (lN (sc_ v g2 (hh_ v) (tt_ v))))), (0, .ref (b 0)), (3, .int (nI (g2)))]) hx hb dX1_digest_194 rfl hl (by decide) rfl (fun ls hl => ?_)
      refine lv_iconst (v := nI (0)) hx hb dX1_digest_195 (by decide) ?_
      refine lv_istore (lv' := [(4, .int (nI (0))), (1, .long (dg_ (dg_ (dS_ v (dC_ v (dH_ v) (vs_c v)) g2) (lN (vs_so v g2))) (lN (sc_ v g2 (hh_ v) (tt_ v))))), (0, .ref (b 0)), (3, .int (nI (g2)))]) hx hb dX1_digest_196 hl (by decide) rfl (fun ls hl => ?_)
      suffices hloop_198 : ∀ (n_198 j : Nat) (ls : Array Slot) (H : Heap) (locs : List Loc), j + n_198 = vs_c v → lv_has ls 5 [(0, .ref (b 0)), (1, .long (dI_ v g2 (dg_ (dg_ (dS_ v (dC_ v (dH_ v) (vs_c v)) g2) (lN (vs_so v g2))) (lN (sc_ v g2 (hh_ v) (tt_ v)))) j)), (3, .int (nI (g2))), (4, .int (nI (j)))] → va_P D vwCl (mw κ b 0 v) H → va_S (ma_ b) s.heap H locs → W p l e (rm_ 8 190) s m args below meth c H locs 0 0 Qq (F0 m 198 ls []) from hloop_198 (vs_c v - 0) (0) ls H locs (by omega) (lv_cast (k := [(0, .ref (b 0)), (1, .long (dg_ (dg_ (dS_ v (dC_ v (dH_ v) (vs_c v)) g2) (lN (vs_so v g2))) (lN (sc_ v g2 (hh_ v) (tt_ v))))), (3, .int (nI (g2))), (4, .int (nI (0)))]) (lv_sub hl [2, 1, 3, 0] rfl) (lc_cons rfl (lc_cons (congrArg (fun z : Int64 => ((1 : Nat), Value.long z)) (show (dg_ (dg_ (dS_ v (dC_ v (dH_ v) (vs_c v)) g2) (lN (vs_so v g2))) (lN (sc_ v g2 (hh_ v) (tt_ v))) : Int64) = dI_ v g2 (dg_ (dg_ (dS_ v (dC_ v (dH_ v) (vs_c v)) g2) (lN (vs_so v g2))) (lN (sc_ v g2 (hh_ v) (tt_ v)))) 0 from by rfl)) (lc_cons rfl (lc_cons rfl rfl))))) (hP) hS
      intro n_198
      induction n_198 with
      | zero =>
        intro j ls H locs hin_198 hl hP hS
        have hi_198 : j = vs_c v := by omega
        have h6 := hv6 g2 j
        refine lv_iload hx hb dX1_digest_198 (lv_at hl 3 rfl) ?_
        refine lv_aload_n hx hb dX1_digest_200 rfl (lv_at hl 0 rfl) ?_
        refine va_get (D := D) (ci := 1) (v := .int (nI (vs_c v))) (C := RX1) (T := TX1) (N := 8) hx hb hts i_X1 hown hK hP 0 rfl rfl 1 (by decide) (hts _ q_f_X1_23) (fun _ h9 => h9) rfl dX1_digest_201 ?_
        refine nv_icmp_ge (tgt := 232) hx hb dX1_digest_204 (by decide) (by omega) (by omega) (fun c_204 => ?_) (fun z => absurd z (by omega))
        refine lv_iinc (v := nI (g2 + 1)) (lv' := [(3, .int (nI (g2 + 1))), (0, .ref (b 0)), (1, .long (dI_ v g2 (dg_ (dg_ (dS_ v (dC_ v (dH_ v) (vs_c v)) g2) (lN (vs_so v g2))) (lN (sc_ v g2 (hh_ v) (tt_ v)))) j)), (4, .int (nI (j)))]) hx hb dX1_digest_232 hl (k := 2) rfl (nI_add _ _) (by decide) rfl (fun ls hl => ?_)
        refine lv_goto (tgt := 161) hx hb dX1_digest_235 (by decide) ?_
        exact ih_161 (g2 + 1) ls _ _ (by omega) (lv_cast (k := [(0, .ref (b 0)), (1, .long (dI_ v g2 (dg_ (dg_ (dS_ v (dC_ v (dH_ v) (vs_c v)) g2) (lN (vs_so v g2))) (lN (sc_ v g2 (hh_ v) (tt_ v)))) j)), (3, .int (nI (g2 + 1)))]) (lv_sub hl [1, 2, 0] rfl) (lc_cons rfl (lc_cons (congrArg (fun z : Int64 => ((1 : Nat), Value.long z)) (show (dI_ v g2 (dg_ (dg_ (dS_ v (dC_ v (dH_ v) (vs_c v)) g2) (lN (vs_so v g2))) (lN (sc_ v g2 (hh_ v) (tt_ v)))) j : Int64) = dS_ v (dC_ v (dH_ v) (vs_c v)) (g2 + 1) from by rw [hi_198]; rfl)) (lc_cons (congrArg (fun z : Nat => ((3 : Nat), Value.int (nI z))) (show (g2 + 1 : Nat) = (g2 + 1) from by first | rfl | omega)) rfl)))) (hP) hS
      | succ n_198 ih_198 =>
        intro j ls H locs hin_198 hl hP hS
        have h6 := hv6 g2 j
        refine lv_iload hx hb dX1_digest_198 (lv_at hl 3 rfl) ?_
        refine lv_aload_n hx hb dX1_digest_200 rfl (lv_at hl 0 rfl) ?_
        refine va_get (D := D) (ci := 1) (v := .int (nI (vs_c v))) (C := RX1) (T := TX1) (N := 8) hx hb hts i_X1 hown hK hP 0 rfl rfl 1 (by decide) (hts _ q_f_X1_23) (fun _ h9 => h9) rfl dX1_digest_201 ?_
        refine nv_icmp_ge (tgt := 232) hx hb dX1_digest_204 (by decide) (by omega) (by omega) (fun z => absurd z (by omega)) (fun c_204 => ?_)
        refine lv_lload_n hx hb dX1_digest_207 rfl (lv_at hl 1 rfl) ?_
        refine lv_ldc2 (own := RX1) (index := 144) (v := lN (31)) hx hb hown (hts _ q_k_X1_144) dX1_digest_208 ?_
        refine lv_lmul hx hb dX1_digest_211 ?_
        refine lv_aload_n hx hb dX1_digest_212 rfl (lv_at hl 0 rfl) ?_
        refine va_get (D := D) (ci := 1) (v := .ref (b 3)) (C := RX1) (T := TX1) (N := 8) hx hb hts i_X1 hown hK hP 0 rfl rfl 7 (by decide) (hts _ q_f_X1_16) (fun _ h9 => h9) rfl dX1_digest_213 ?_
        refine lv_iconst (v := nI (4)) hx hb dX1_digest_216 (by decide) ?_
        refine lv_iload hx hb dX1_digest_217 (lv_at hl 3 rfl) ?_
        refine nv_imul hx hb dX1_digest_219 rfl ?_
        refine lv_iload_n hx hb dX1_digest_220 rfl (lv_at hl 2 rfl) ?_
        refine nv_iadd hx hb dX1_digest_221 rfl ?_
        refine nv_iald hx hb hK hP 3 0 (n := 32) (v := nI (ms_ v ((4 * j) + g2))) rfl rfl (by omega) (by decide) rfl dX1_digest_222 ?_
        refine nv_topi (congrArg nI (show (ms_ v ((4 * j) + g2) : Nat) = vs_sh v g2 j from by exact ms_at (by omega) (by omega) (by omega))) ?_
        refine nv_i2l hx hb dX1_digest_223 (by omega) ?_
        refine lv_ladd hx hb dX1_digest_224 ?_
        refine nv_topl (show (((dI_ v g2 (dg_ (dg_ (dS_ v (dC_ v (dH_ v) (vs_c v)) g2) (lN (vs_so v g2))) (lN (sc_ v g2 (hh_ v) (tt_ v)))) j) * (lN (31))) + (lN (vs_sh v g2 j)) : Int64) = dg_ (dI_ v g2 (dg_ (dg_ (dS_ v (dC_ v (dH_ v) (vs_c v)) g2) (lN (vs_so v g2))) (lN (sc_ v g2 (hh_ v) (tt_ v)))) j) (lN (vs_sh v g2 j)) from by rfl) ?_
        refine lv_lstore_n (lv' := [(1, .long (dg_ (dI_ v g2 (dg_ (dg_ (dS_ v (dC_ v (dH_ v) (vs_c v)) g2) (lN (vs_so v g2))) (lN (sc_ v g2 (hh_ v) (tt_ v)))) j) (lN (vs_sh v g2 j)))), (0, .ref (b 0)), (3, .int (nI (g2))), (4, .int (nI (j)))]) hx hb dX1_digest_225 rfl hl (by decide) rfl (fun ls hl => ?_)
        refine lv_iinc (v := nI (j + 1)) (lv' := [(4, .int (nI (j + 1))), (1, .long (dg_ (dI_ v g2 (dg_ (dg_ (dS_ v (dC_ v (dH_ v) (vs_c v)) g2) (lN (vs_so v g2))) (lN (sc_ v g2 (hh_ v) (tt_ v)))) j) (lN (vs_sh v g2 j)))), (0, .ref (b 0)), (3, .int (nI (g2)))]) hx hb dX1_digest_226 hl (k := 3) rfl (nI_add _ _) (by decide) rfl (fun ls hl => ?_)
        refine lv_goto (tgt := 198) hx hb dX1_digest_229 (by decide) ?_
        exact ih_198 (j + 1) ls _ _ (by omega) (lv_cast (k := [(0, .ref (b 0)), (1, .long (dg_ (dI_ v g2 (dg_ (dg_ (dS_ v (dC_ v (dH_ v) (vs_c v)) g2) (lN (vs_so v g2))) (lN (sc_ v g2 (hh_ v) (tt_ v)))) j) (lN (vs_sh v g2 j)))), (3, .int (nI (g2))), (4, .int (nI (j + 1)))]) (lv_sub hl [2, 1, 3, 0] rfl) (lc_cons rfl (lc_cons (congrArg (fun z : Int64 => ((1 : Nat), Value.long z)) (show (dg_ (dI_ v g2 (dg_ (dg_ (dS_ v (dC_ v (dH_ v) (vs_c v)) g2) (lN (vs_so v g2))) (lN (sc_ v g2 (hh_ v) (tt_ v)))) j) (lN (vs_sh v g2 j)) : Int64) = dI_ v g2 (dg_ (dg_ (dS_ v (dC_ v (dH_ v) (vs_c v)) g2) (lN (vs_so v g2))) (lN (sc_ v g2 (hh_ v) (tt_ v)))) (j + 1) from by rfl)) (lc_cons rfl (lc_cons (congrArg (fun z : Nat => ((4 : Nat), Value.int (nI z))) (show (j + 1 : Nat) = (j + 1) from by first | rfl | omega)) rfl))))) (hP) hS
  | succ n_106 ih_106 =>
    intro i ls H locs hin_106 hl hP hS
    have h4 := hv4 i
    refine lv_iload_n hx hb dX1_digest_106 rfl (lv_at hl 2 rfl) ?_
    refine lv_aload_n hx hb dX1_digest_107 rfl (lv_at hl 0 rfl) ?_
    refine va_get (D := D) (ci := 1) (v := .int (nI (vs_c v))) (C := RX1) (T := TX1) (N := 8) hx hb hts i_X1 hown hK hP 0 rfl rfl 1 (by decide) (hts _ q_f_X1_23) (fun _ h9 => h9) rfl dX1_digest_108 ?_
    refine nv_icmp_ge (tgt := 159) hx hb dX1_digest_111 (by decide) (by omega) (by omega) (fun z => absurd z (by omega)) (fun c_111 => ?_)
    refine lv_lload_n hx hb dX1_digest_114 rfl (lv_at hl 1 rfl) ?_
    refine lv_ldc2 (own := RX1) (index := 144) (v := lN (31)) hx hb hown (hts _ q_k_X1_144) dX1_digest_115 ?_
    refine lv_lmul hx hb dX1_digest_118 ?_
    refine lv_aload_n hx hb dX1_digest_119 rfl (lv_at hl 0 rfl) ?_
    refine va_get (D := D) (ci := 1) (v := .ref (b 1)) (C := RX1) (T := TX1) (N := 8) hx hb hts i_X1 hown hK hP 0 rfl rfl 5 (by decide) (hts _ q_f_X1_9) (fun _ h9 => h9) rfl dX1_digest_120 ?_
    refine lv_iload_n hx hb dX1_digest_123 rfl (lv_at hl 2 rfl) ?_
    refine nv_iald hx hb hK hP 1 0 (n := 8) (v := nI (vs_ct v i)) rfl rfl (by omega) (by decide) rfl dX1_digest_124 ?_
    refine nv_i2l hx hb dX1_digest_125 (by omega) ?_
    refine lv_ladd hx hb dX1_digest_126 ?_
    refine nv_topl (show (((dC_ v (dH_ v) i) * (lN (31))) + (lN (vs_ct v i)) : Int64) = dg_ (dC_ v (dH_ v) i) (lN (vs_ct v i)) from by rfl) ?_
    refine lv_lstore_n (lv' := [(1, .long (dg_ (dC_ v (dH_ v) i) (lN (vs_ct v i)))), (0, .ref (b 0)), (3, .int (nI (i)))]) hx hb dX1_digest_127 rfl hl (by decide) rfl (fun ls hl => ?_)
    refine lv_lload_n hx hb dX1_digest_128 rfl (lv_at hl 0 rfl) ?_
    refine lv_ldc2 (own := RX1) (index := 144) (v := lN (31)) hx hb hown (hts _ q_k_X1_144) dX1_digest_129 ?_
    refine lv_lmul hx hb dX1_digest_132 ?_
    refine lv_aload_n hx hb dX1_digest_133 rfl (lv_at hl 1 rfl) ?_
    refine lv_iload_n hx hb dX1_digest_134 rfl (lv_at hl 2 rfl) ?_
    refine rd_V (rest := [.long ((dg_ (dC_ v (dH_ v) i) (lN (vs_ct v i))) * (lN (31)))]) ⟨hx, hb, hml, hown, hts⟩ (c_X1_here l D κ b 0 v hv (i) (by omega)) g_X1_106 n_X1_here ⟨Nat.le_of_ble_eq_true rfl, Nat.le_of_ble_eq_true rfl⟩ hK hP rfl rfl rfl hl.1 rfl (Nat.le_of_ble_eq_true rfl) dX1_digest_135 ⟨Nat.zero_le _, Nat.zero_le _⟩ ?_
    refine lv_ladd hx hb dX1_digest_138 ?_
    refine nv_topl (show (((dg_ (dC_ v (dH_ v) i) (lN (vs_ct v i))) * (lN (31))) + (lN (wt_ v i (hh_ v) (tt_ v))) : Int64) = dg_ (dg_ (dC_ v (dH_ v) i) (lN (vs_ct v i))) (lN (wt_ v i (hh_ v) (tt_ v))) from by rfl) ?_
    refine lv_lstore_n (lv' := [(1, .long (dg_ (dg_ (dC_ v (dH_ v) i) (lN (vs_ct v i))) (lN (wt_ v i (hh_ v) (tt_ v))))), (0, .ref (b 0)), (3, .int (nI (i)))]) hx hb dX1_digest_139 rfl hl (by decide) rfl (fun ls hl => ?_)
    refine lv_lload_n hx hb dX1_digest_140 rfl (lv_at hl 0 rfl) ?_
    refine lv_ldc2 (own := RX1) (index := 144) (v := lN (31)) hx hb hown (hts _ q_k_X1_144) dX1_digest_141 ?_
    refine lv_lmul hx hb dX1_digest_144 ?_
    refine lv_aload_n hx hb dX1_digest_145 rfl (lv_at hl 1 rfl) ?_
    refine lv_iload_n hx hb dX1_digest_146 rfl (lv_at hl 2 rfl) ?_
    refine rd_V (rest := [.long ((dg_ (dg_ (dC_ v (dH_ v) i) (lN (vs_ct v i))) (lN (wt_ v i (hh_ v) (tt_ v)))) * (lN (31)))]) ⟨hx, hb, hml, hown, hts⟩ (c_X1_toLead l D κ b 0 v hv (i) (by omega)) g_X1_136 n_X1_toLead ⟨Nat.le_of_ble_eq_true rfl, Nat.le_of_ble_eq_true rfl⟩ hK hP rfl rfl rfl hl.1 rfl (Nat.le_of_ble_eq_true rfl) dX1_digest_147 ⟨Nat.zero_le _, Nat.zero_le _⟩ ?_
    refine lv_i2l (v := (tl_ v i).toInt64) hx hb dX1_digest_150 rfl ?_
    refine lv_ladd hx hb dX1_digest_151 ?_
    refine nv_topl (show (((dg_ (dg_ (dC_ v (dH_ v) i) (lN (vs_ct v i))) (lN (wt_ v i (hh_ v) (tt_ v)))) * (lN (31))) + ((tl_ v i).toInt64) : Int64) = dg_ (dg_ (dg_ (dC_ v (dH_ v) i) (lN (vs_ct v i))) (lN (wt_ v i (hh_ v) (tt_ v)))) ((tl_ v i).toInt64) from by rfl) ?_
    refine lv_lstore_n (lv' := [(1, .long (dg_ (dg_ (dg_ (dC_ v (dH_ v) i) (lN (vs_ct v i))) (lN (wt_ v i (hh_ v) (tt_ v)))) ((tl_ v i).toInt64))), (0, .ref (b 0)), (3, .int (nI (i)))]) hx hb dX1_digest_152 rfl hl (by decide) rfl (fun ls hl => ?_)
    refine lv_iinc (v := nI (i + 1)) (lv' := [(3, .int (nI (i + 1))), (1, .long (dg_ (dg_ (dg_ (dC_ v (dH_ v) i) (lN (vs_ct v i))) (lN (wt_ v i (hh_ v) (tt_ v)))) ((tl_ v i).toInt64))), (0, .ref (b 0))]) hx hb dX1_digest_153 hl (k := 2) rfl (nI_add _ _) (by decide) rfl (fun ls hl => ?_)
    refine lv_goto (tgt := 106) hx hb dX1_digest_156 (by decide) ?_
    exact ih_106 (i + 1) ls _ _ (by omega) (lv_cast (k := [(0, .ref (b 0)), (1, .long (dg_ (dg_ (dg_ (dC_ v (dH_ v) i) (lN (vs_ct v i))) (lN (wt_ v i (hh_ v) (tt_ v)))) ((tl_ v i).toInt64))), (3, .int (nI (i + 1)))]) (lv_sub hl [2, 1, 0] rfl) (lc_cons rfl (lc_cons (congrArg (fun z : Int64 => ((1 : Nat), Value.long z)) (show (dg_ (dg_ (dg_ (dC_ v (dH_ v) i) (lN (vs_ct v i))) (lN (wt_ v i (hh_ v) (tt_ v)))) ((tl_ v i).toInt64) : Int64) = dC_ v (dH_ v) (i + 1) from by rfl)) (lc_cons (congrArg (fun z : Nat => ((3 : Nat), Value.int (nI z))) (show (i + 1 : Nat) = (i + 1) from by first | rfl | omega)) rfl)))) (hP) hS
