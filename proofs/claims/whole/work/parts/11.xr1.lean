set_option maxHeartbeats 4000000 in
set_option maxRecDepth 100000 in
theorem c_X0_headsAhead (l : Launch) (D : va_G) (κ : Nat → ClassId) (a : Nat → Nat) (v : VS) (hv : ok_v v) (k : Nat) (hk : k ≤ 12) : Rd l yX0_headsAhead cX0_headsAhead 4 (some .int) 0 0 (Pw D (kt_ κ) (xw κ a v) [.ref (a 0), .int (nI (k))]) (.int (nI (hd_ (vs_th v) k))) := by
  refine rd_intro (own := RX0) (by decide +kernel) rfl (Nat.le_of_ble_eq_true rfl) (fun p e s m args below meth c pc ls hx hb hr hlk d => ret_I hx hb hr hlk d) ?_
  intro p e s m args below meth c ls Qq hx hb hml hown hts hK hP hend hl
  have hl : lv_has ls 4 [(0, .ref (a 0)), (1, .int (nI (k)))] := hl
  obtain ⟨hv1, hv2, hv3, hv4, hv5, hv6⟩ := id hv
  refine lv_iconst (v := nI (0)) hx hb dX0_headsAhead_0 (by decide) ?_
  refine lv_istore_n (lv' := [(2, .int (nI (0))), (0, .ref (a 0)), (1, .int (nI (k)))]) hx hb dX0_headsAhead_1 rfl hl (by decide) rfl (fun ls hl => ?_)
  refine lv_iconst (v := nI (0)) hx hb dX0_headsAhead_2 (by decide) ?_
  refine lv_istore_n (lv' := [(3, .int (nI (0))), (2, .int (nI (0))), (0, .ref (a 0)), (1, .int (nI (k)))]) hx hb dX0_headsAhead_3 rfl hl (by decide) rfl (fun ls hl => ?_)
  suffices hloop_4 : ∀ (n_4 i : Nat) (ls : Array Slot), i + n_4 = k → lv_has ls 4 [(0, .ref (a 0)), (1, .int (nI (k))), (2, .int (nI (hd_ (vs_th v) i))), (3, .int (nI (i)))] → W p l e (rm_ 0 0) s m args below meth c s.heap [] 0 0 Qq (F0 m 4 ls []) from hloop_4 (k - 0) (0) ls (by omega) (lv_cast (k := [(0, .ref (a 0)), (1, .int (nI (k))), (2, .int (nI (0))), (3, .int (nI (0)))]) (lv_sub hl [2, 3, 1, 0] rfl) (lc_cons rfl (lc_cons rfl (lc_cons (congrArg (fun z : Nat => ((2 : Nat), Value.int (nI z))) (show (0 : Nat) = hd_ (vs_th v) 0 from by first | rfl | omega)) (lc_cons rfl rfl)))))
  intro n_4
  induction n_4 with
  | zero =>
    intro i ls hin_4 hl
    have hi_4 : i = k := by omega
    refine lv_iload_n hx hb dX0_headsAhead_4 rfl (lv_at hl 3 rfl) ?_
    refine lv_iload_n hx hb dX0_headsAhead_5 rfl (lv_at hl 1 rfl) ?_
    refine nv_icmp_ge (tgt := 27) hx hb dX0_headsAhead_6 (by decide) (by omega) (by omega) (fun c_6 => ?_) (fun z => absurd z (by omega))
    refine lv_iload_n hx hb dX0_headsAhead_27 rfl (lv_at hl 2 rfl) ?_
    refine nv_topi (congrArg nI (show (hd_ (vs_th v) i : Nat) = hd_ (vs_th v) k from by rw [hi_4])) ?_
    exact hend _ _ dX0_headsAhead_28
  | succ n_4 ih_4 =>
    intro i ls hin_4 hl
    refine lv_iload_n hx hb dX0_headsAhead_4 rfl (lv_at hl 3 rfl) ?_
    refine lv_iload_n hx hb dX0_headsAhead_5 rfl (lv_at hl 1 rfl) ?_
    refine nv_icmp_ge (tgt := 27) hx hb dX0_headsAhead_6 (by decide) (by omega) (by omega) (fun z => absurd z (by omega)) (fun c_6 => ?_)
    refine lv_aload_n hx hb dX0_headsAhead_9 rfl (lv_at hl 0 rfl) ?_
    refine va_get (D := D) (ci := 0) (v := .ref (a 4)) (C := RX0) (T := TX0) (N := 7) hx hb hts i_X0 hown hK hP 0 rfl rfl 3 (by decide) (hts _ q_f_X0_21) (fun _ h9 => h9) rfl dX0_headsAhead_10 ?_
    refine lv_iload_n hx hb dX0_headsAhead_13 rfl (lv_at hl 3 rfl) ?_
    refine nv_zald hx hb hK hP 4 2 (n := 12) (v := bI (vs_th v i)) rfl rfl (by omega) (by decide) rfl dX0_headsAhead_14 ?_
    refine bv_if_eq (tgt := 21) hx hb dX0_headsAhead_15 (by decide) (fun c_15 => ?_) (fun c_15 => ?_)
    · refine lv_iinc (v := nI (i + 1)) (lv' := [(3, .int (nI (i + 1))), (0, .ref (a 0)), (1, .int (nI (k))), (2, .int (nI (hd_ (vs_th v) i)))]) hx hb dX0_headsAhead_21 hl (k := 3) rfl (nI_add _ _) (by decide) rfl (fun ls hl => ?_)
      refine lv_goto (tgt := 4) hx hb dX0_headsAhead_24 (by decide) ?_
      exact ih_4 (i + 1) ls (by omega) (lv_cast (k := [(0, .ref (a 0)), (1, .int (nI (k))), (2, .int (nI (hd_ (vs_th v) i))), (3, .int (nI (i + 1)))]) (lv_sub hl [1, 2, 3, 0] rfl) (lc_cons rfl (lc_cons rfl (lc_cons (congrArg (fun z : Nat => ((2 : Nat), Value.int (nI z))) (show (hd_ (vs_th v) i : Nat) = hd_ (vs_th v) (i + 1) from by simp [hd_, c_6, c_15])) (lc_cons (congrArg (fun z : Nat => ((3 : Nat), Value.int (nI z))) (show (i + 1 : Nat) = (i + 1) from by first | rfl | omega)) rfl)))))
    · refine lv_iinc (v := nI ((hd_ (vs_th v) i) + 1)) (lv' := [(2, .int (nI ((hd_ (vs_th v) i) + 1))), (0, .ref (a 0)), (1, .int (nI (k))), (3, .int (nI (i)))]) hx hb dX0_headsAhead_18 hl (k := 2) rfl (nI_add _ _) (by decide) rfl (fun ls hl => ?_)
      refine lv_iinc (v := nI (i + 1)) (lv' := [(3, .int (nI (i + 1))), (2, .int (nI ((hd_ (vs_th v) i) + 1))), (0, .ref (a 0)), (1, .int (nI (k)))]) hx hb dX0_headsAhead_21 hl (k := 3) rfl (nI_add _ _) (by decide) rfl (fun ls hl => ?_)
      refine lv_goto (tgt := 4) hx hb dX0_headsAhead_24 (by decide) ?_
      exact ih_4 (i + 1) ls (by omega) (lv_cast (k := [(0, .ref (a 0)), (1, .int (nI (k))), (2, .int (nI ((hd_ (vs_th v) i) + 1))), (3, .int (nI (i + 1)))]) (lv_sub hl [2, 3, 1, 0] rfl) (lc_cons rfl (lc_cons rfl (lc_cons (congrArg (fun z : Nat => ((2 : Nat), Value.int (nI z))) (show ((hd_ (vs_th v) i) + 1 : Nat) = hd_ (vs_th v) (i + 1) from by simp [hd_, c_6, c_15])) (lc_cons (congrArg (fun z : Nat => ((3 : Nat), Value.int (nI z))) (show (i + 1 : Nat) = (i + 1) from by first | rfl | omega)) rfl)))))
set_option maxHeartbeats 4000000 in
set_option maxRecDepth 100000 in
theorem c_X0_headsNow (l : Launch) (D : va_G) (κ : Nat → ClassId) (a : Nat → Nat) (v : VS) (hv : ok_v v) : Rd l yX0_headsNow cX0_headsNow 1 (some .int) 1 23 (Pw D (kt_ κ) (xw κ a v) [.ref (a 0)]) (.int (nI (hh_ v))) := by
  refine rd_intro (own := RX0) (by decide +kernel) rfl (Nat.le_of_ble_eq_true rfl) (fun p e s m args below meth c pc ls hx hb hr hlk d => ret_I hx hb hr hlk d) ?_
  intro p e s m args below meth c ls Qq hx hb hml hown hts hK hP hend hl
  have hl : lv_has ls 1 [(0, .ref (a 0))] := hl
  obtain ⟨hv1, hv2, hv3, hv4, hv5, hv6⟩ := id hv
  refine lv_aload_n hx hb dX0_headsNow_0 rfl (lv_at hl 0 rfl) ?_
  refine lv_aload_n hx hb dX0_headsNow_1 rfl (lv_at hl 0 rfl) ?_
  refine va_get (D := D) (ci := 0) (v := .int (nI (vs_t v))) (C := RX0) (T := TX0) (N := 7) hx hb hts i_X0 hown hK hP 0 rfl rfl 6 (by decide) (hts _ q_f_X0_32) (fun _ h9 => h9) rfl dX0_headsNow_2 ?_
  refine rd_V (rest := []) ⟨hx, hb, hml, hown, hts⟩ (c_X0_headsAhead l D κ a v hv (vs_t v) (by omega)) g_X0_177 n_X0_headsAhead ⟨Nat.le_of_ble_eq_true rfl, Nat.le_of_ble_eq_true rfl⟩ hK hP rfl rfl rfl hl.1 rfl (Nat.le_of_ble_eq_true rfl) dX0_headsNow_5 ⟨Nat.zero_le _, Nat.zero_le _⟩ ?_
  refine nv_topi (congrArg nI (show (hd_ (vs_th v) (vs_t v) : Nat) = hh_ v from by first | rfl | omega)) ?_
  exact hend _ _ dX0_headsNow_8
set_option maxHeartbeats 4000000 in
set_option maxRecDepth 100000 in
theorem c_X0_tailsNow (l : Launch) (D : va_G) (κ : Nat → ClassId) (a : Nat → Nat) (v : VS) (hv : ok_v v) : Rd l yX0_tailsNow cX0_tailsNow 1 (some .int) 1 23 (Pw D (kt_ κ) (xw κ a v) [.ref (a 0)]) (.int (nI (tt_ v))) := by
  refine rd_intro (own := RX0) (by decide +kernel) rfl (Nat.le_of_ble_eq_true rfl) (fun p e s m args below meth c pc ls hx hb hr hlk d => ret_I hx hb hr hlk d) ?_
  intro p e s m args below meth c ls Qq hx hb hml hown hts hK hP hend hl
  have hl : lv_has ls 1 [(0, .ref (a 0))] := hl
  obtain ⟨hv1, hv2, hv3, hv4, hv5, hv6⟩ := id hv
  have hq := hd_le (vs_th v) (vs_t v)
  refine lv_aload_n hx hb dX0_tailsNow_0 rfl (lv_at hl 0 rfl) ?_
  refine va_get (D := D) (ci := 0) (v := .int (nI (vs_t v))) (C := RX0) (T := TX0) (N := 7) hx hb hts i_X0 hown hK hP 0 rfl rfl 6 (by decide) (hts _ q_f_X0_32) (fun _ h9 => h9) rfl dX0_tailsNow_1 ?_
  refine lv_aload_n hx hb dX0_tailsNow_4 rfl (lv_at hl 0 rfl) ?_
  refine lv_aload_n hx hb dX0_tailsNow_5 rfl (lv_at hl 0 rfl) ?_
  refine va_get (D := D) (ci := 0) (v := .int (nI (vs_t v))) (C := RX0) (T := TX0) (N := 7) hx hb hts i_X0 hown hK hP 0 rfl rfl 6 (by decide) (hts _ q_f_X0_32) (fun _ h9 => h9) rfl dX0_tailsNow_6 ?_
  refine rd_V (rest := [.int (nI (vs_t v))]) ⟨hx, hb, hml, hown, hts⟩ (c_X0_headsAhead l D κ a v hv (vs_t v) (by omega)) g_X0_177 n_X0_headsAhead ⟨Nat.le_of_ble_eq_true rfl, Nat.le_of_ble_eq_true rfl⟩ hK hP rfl rfl rfl hl.1 rfl (Nat.le_of_ble_eq_true rfl) dX0_tailsNow_9 ⟨Nat.zero_le _, Nat.zero_le _⟩ ?_
  refine nv_isub (r := (vs_t v) - (hd_ (vs_th v) (vs_t v))) hx hb dX0_tailsNow_12 (by omega) ?_
  refine nv_topi (congrArg nI (show ((vs_t v) - (hd_ (vs_th v) (vs_t v)) : Nat) = tt_ v from by first | rfl | omega)) ?_
  exact hend _ _ dX0_tailsNow_13
set_option maxHeartbeats 4000000 in
set_option maxRecDepth 100000 in
theorem c_X0_startWeight (l : Launch) (D : va_G) (κ : Nat → ClassId) (a : Nat → Nat) (v : VS) (hv : ok_v v) (s_ : Nat) (c_ : Nat) (hs : s_ < 4) (hc : c_ < 8) : Rd l yX0_startWeight cX0_startWeight 3 (some .long) 0 0 (Pw D (kt_ κ) (xw κ a v) [.ref (a 0), .int (nI (s_)), .int (nI (c_))]) (.long (lN (sw_ v s_ c_))) := by
  refine rd_intro (own := RX0) (by decide +kernel) rfl (Nat.le_of_ble_eq_true rfl) (fun p e s m args below meth c pc ls hx hb hr hlk d => ret_L hx hb hr hlk d) ?_
  intro p e s m args below meth c ls Qq hx hb hml hown hts hK hP hend hl
  have hl : lv_has ls 3 [(0, .ref (a 0)), (1, .int (nI (s_))), (2, .int (nI (c_)))] := hl
  obtain ⟨hv1, hv2, hv3, hv4, hv5, hv6⟩ := id hv
  have h5 := hv5 s_
  have h6 := hv6 s_ c_
  refine lv_aload_n hx hb dX0_startWeight_0 rfl (lv_at hl 0 rfl) ?_
  refine va_get (D := D) (ci := 0) (v := .ref (a 2)) (C := RX0) (T := TX0) (N := 7) hx hb hts i_X0 hown hK hP 0 rfl rfl 1 (by decide) (hts _ q_f_X0_13) (fun _ h9 => h9) rfl dX0_startWeight_1 ?_
  refine lv_iload_n hx hb dX0_startWeight_4 rfl (lv_at hl 1 rfl) ?_
  refine nv_iald hx hb hK hP 2 0 (n := 4) (v := nI (vs_so v s_)) rfl rfl (by omega) (by decide) rfl dX0_startWeight_5 ?_
  refine nv_i2l hx hb dX0_startWeight_6 (by omega) ?_
  refine lv_aload_n hx hb dX0_startWeight_7 rfl (lv_at hl 0 rfl) ?_
  refine va_get (D := D) (ci := 0) (v := .ref (a 3)) (C := RX0) (T := TX0) (N := 7) hx hb hts i_X0 hown hK hP 0 rfl rfl 2 (by decide) (hts _ q_f_X0_18) (fun _ h9 => h9) rfl dX0_startWeight_8 ?_
  refine lv_iload_n hx hb dX0_startWeight_11 rfl (lv_at hl 1 rfl) ?_
  refine nv_aald hx hb hK hP 3 1 (r := a (5 + s_)) rfl rfl (by omega) (by decide) (xw_ref (by omega)) dX0_startWeight_12 ?_
  refine lv_iload_n hx hb dX0_startWeight_13 rfl (lv_at hl 2 rfl) ?_
  refine nv_iald hx hb hK hP (5 + s_) 0 (n := 8) (v := nI (vs_sh v s_ c_)) (xw_row (by omega)) rfl (by omega) (by decide) rfl dX0_startWeight_14 ?_
  refine nv_i2l hx hb dX0_startWeight_15 (by omega) ?_
  refine nv_lmul hx hb dX0_startWeight_16 rfl ?_
  refine nv_topl (congrArg lN (show ((vs_so v s_) * (vs_sh v s_ c_) : Nat) = sw_ v s_ c_ from by first | rfl | omega)) ?_
  exact hend _ _ dX0_startWeight_17
set_option maxHeartbeats 4000000 in
set_option maxRecDepth 100000 in
theorem c_X0_likelihood (l : Launch) (D : va_G) (κ : Nat → ClassId) (a : Nat → Nat) (v : VS) (hv : ok_v v) (c_ : Nat) (x : Nat) (y : Nat) (hc : c_ < 8) (hx2 : x ≤ 20) (hy : y ≤ 20) : Rd l yX0_likelihood cX0_likelihood 8 (some .long) 0 0 (Pw D (kt_ κ) (xw κ a v) [.ref (a 0), .int (nI (c_)), .int (nI (x)), .int (nI (y))]) (.long (lN (lk_ v c_ x y))) := by
  refine rd_intro (own := RX0) (by decide +kernel) rfl (Nat.le_of_ble_eq_true rfl) (fun p e s m args below meth c pc ls hx hb hr hlk d => ret_L hx hb hr hlk d) ?_
  intro p e s m args below meth c ls Qq hx hb hml hown hts hK hP hend hl
  have hl : lv_has ls 8 [(0, .ref (a 0)), (1, .int (nI (c_))), (2, .int (nI (x))), (3, .int (nI (y)))] := hl
  obtain ⟨hv1, hv2, hv3, hv4, hv5, hv6⟩ := id hv
  have h4 := hv4 c_
  refine lv_aload_n hx hb dX0_likelihood_0 rfl (lv_at hl 0 rfl) ?_
  refine va_get (D := D) (ci := 0) (v := .ref (a 1)) (C := RX0) (T := TX0) (N := 7) hx hb hts i_X0 hown hK hP 0 rfl rfl 0 (by decide) (hts _ q_f_X0_9) (fun _ h9 => h9) rfl dX0_likelihood_1 ?_
  refine lv_iload_n hx hb dX0_likelihood_4 rfl (lv_at hl 1 rfl) ?_
  refine nv_iald hx hb hK hP 1 0 (n := 8) (v := nI (vs_ct v c_)) rfl rfl (by omega) (by decide) rfl dX0_likelihood_5 ?_
  refine lv_istore (lv' := [(4, .int (nI (vs_ct v c_))), (0, .ref (a 0)), (1, .int (nI (c_))), (2, .int (nI (x))), (3, .int (nI (y)))]) hx hb dX0_likelihood_6 hl (by decide) rfl (fun ls hl => ?_)
  refine lv_lconst (v := lN (1)) hx hb dX0_likelihood_8 (by decide) ?_
  refine lv_lstore (lv' := [(5, .long (lN (1))), (4, .int (nI (vs_ct v c_))), (0, .ref (a 0)), (1, .int (nI (c_))), (2, .int (nI (x))), (3, .int (nI (y)))]) hx hb dX0_likelihood_9 hl (by decide) rfl (fun ls hl => ?_)
  refine lv_iconst (v := nI (0)) hx hb dX0_likelihood_11 (by decide) ?_
  refine lv_istore (lv' := [(7, .int (nI (0))), (5, .long (lN (1))), (4, .int (nI (vs_ct v c_))), (0, .ref (a 0)), (1, .int (nI (c_))), (2, .int (nI (x))), (3, .int (nI (y)))]) hx hb dX0_likelihood_12 hl (by decide) rfl (fun ls hl => ?_)
  suffices hloop_14 : ∀ (n_14 i : Nat) (ls : Array Slot), i + n_14 = x → lv_has ls 8 [(0, .ref (a 0)), (1, .int (nI (c_))), (2, .int (nI (x))), (3, .int (nI (y))), (4, .int (nI (vs_ct v c_))), (5, .long (lN (vs_ct v c_ ^ i))), (7, .int (nI (i)))] → W p l e (rm_ 0 0) s m args below meth c s.heap [] 0 0 Qq (F0 m 14 ls []) from hloop_14 (x - 0) (0) ls (by omega) (lv_cast (k := [(0, .ref (a 0)), (1, .int (nI (c_))), (2, .int (nI (x))), (3, .int (nI (y))), (4, .int (nI (vs_ct v c_))), (5, .long (lN (1))), (7, .int (nI (0)))]) (lv_sub hl [3, 4, 5, 6, 2, 1, 0] rfl) (lc_cons rfl (lc_cons rfl (lc_cons rfl (lc_cons rfl (lc_cons rfl (lc_cons (congrArg (fun z : Nat => ((5 : Nat), Value.long (lN z))) (show (1 : Nat) = vs_ct v c_ ^ 0 from by first | rfl | omega)) (lc_cons rfl rfl))))))))
  intro n_14
  induction n_14 with
  | zero =>
    intro i ls hin_14 hl
    have hi_14 : i = x := by omega
    refine lv_iload hx hb dX0_likelihood_14 (lv_at hl 6 rfl) ?_
    refine lv_iload_n hx hb dX0_likelihood_16 rfl (lv_at hl 2 rfl) ?_
    refine nv_icmp_ge (tgt := 34) hx hb dX0_likelihood_17 (by decide) (by omega) (by omega) (fun c_17 => ?_) (fun z => absurd z (by omega))
    refine lv_iconst (v := nI (0)) hx hb dX0_likelihood_34 (by decide) ?_
    refine lv_istore (lv' := [(7, .int (nI (0))), (0, .ref (a 0)), (1, .int (nI (c_))), (2, .int (nI (x))), (3, .int (nI (y))), (4, .int (nI (vs_ct v c_))), (5, .long (lN (vs_ct v c_ ^ i)))]) hx hb dX0_likelihood_35 hl (by decide) rfl (fun ls hl => ?_)
    suffices hloop_37 : ∀ (n_37 j : Nat) (ls : Array Slot), j + n_37 = y → lv_has ls 8 [(0, .ref (a 0)), (1, .int (nI (c_))), (2, .int (nI (x))), (3, .int (nI (y))), (4, .int (nI (vs_ct v c_))), (5, .long (lN (vs_ct v c_ ^ x * (10 - vs_ct v c_) ^ j))), (7, .int (nI (j)))] → W p l e (rm_ 0 0) s m args below meth c s.heap [] 0 0 Qq (F0 m 37 ls []) from hloop_37 (y - 0) (0) ls (by omega) (lv_cast (k := [(0, .ref (a 0)), (1, .int (nI (c_))), (2, .int (nI (x))), (3, .int (nI (y))), (4, .int (nI (vs_ct v c_))), (5, .long (lN (vs_ct v c_ ^ i))), (7, .int (nI (0)))]) (lv_sub hl [1, 2, 3, 4, 5, 6, 0] rfl) (lc_cons rfl (lc_cons rfl (lc_cons rfl (lc_cons rfl (lc_cons rfl (lc_cons (congrArg (fun z : Nat => ((5 : Nat), Value.long (lN z))) (show (vs_ct v c_ ^ i : Nat) = vs_ct v c_ ^ x * (10 - vs_ct v c_) ^ 0 from by rw [hi_14, Nat.pow_zero, Nat.mul_one])) (lc_cons rfl rfl))))))))
    intro n_37
    induction n_37 with
    | zero =>
      intro j ls hin_37 hl
      have hi_37 : j = y := by omega
      refine lv_iload hx hb dX0_likelihood_37 (lv_at hl 6 rfl) ?_
      refine lv_iload_n hx hb dX0_likelihood_39 rfl (lv_at hl 3 rfl) ?_
      refine nv_icmp_ge (tgt := 60) hx hb dX0_likelihood_40 (by decide) (by omega) (by omega) (fun c_40 => ?_) (fun z => absurd z (by omega))
      refine lv_lload hx hb dX0_likelihood_60 (lv_at hl 5 rfl) ?_
      refine nv_topl (congrArg lN (show (vs_ct v c_ ^ x * (10 - vs_ct v c_) ^ j : Nat) = lk_ v c_ x y from by rw [hi_37]; rfl)) ?_
      exact hend _ _ dX0_likelihood_62
    | succ n_37 ih_37 =>
      intro j ls hin_37 hl
      refine lv_iload hx hb dX0_likelihood_37 (lv_at hl 6 rfl) ?_
      refine lv_iload_n hx hb dX0_likelihood_39 rfl (lv_at hl 3 rfl) ?_
      refine nv_icmp_ge (tgt := 60) hx hb dX0_likelihood_40 (by decide) (by omega) (by omega) (fun z => absurd z (by omega)) (fun c_40 => ?_)
      refine lv_lload hx hb dX0_likelihood_43 (lv_at hl 5 rfl) ?_
      refine lv_bipush (v := nI (10)) hx hb dX0_likelihood_45 (by decide) ?_
      refine lv_iload hx hb dX0_likelihood_47 (lv_at hl 4 rfl) ?_
      refine nv_isub (r := 10 - (vs_ct v c_)) hx hb dX0_likelihood_49 (by omega) ?_
      refine nv_i2l hx hb dX0_likelihood_50 (by omega) ?_
      refine nv_lmul hx hb dX0_likelihood_51 rfl ?_
      refine lv_lstore (lv' := [(5, .long (lN ((vs_ct v c_ ^ x * (10 - vs_ct v c_) ^ j) * (10 - (vs_ct v c_))))), (0, .ref (a 0)), (1, .int (nI (c_))), (2, .int (nI (x))), (3, .int (nI (y))), (4, .int (nI (vs_ct v c_))), (7, .int (nI (j)))]) hx hb dX0_likelihood_52 hl (by decide) rfl (fun ls hl => ?_)
      refine lv_iinc (v := nI (j + 1)) (lv' := [(7, .int (nI (j + 1))), (5, .long (lN ((vs_ct v c_ ^ x * (10 - vs_ct v c_) ^ j) * (10 - (vs_ct v c_))))), (0, .ref (a 0)), (1, .int (nI (c_))), (2, .int (nI (x))), (3, .int (nI (y))), (4, .int (nI (vs_ct v c_)))]) hx hb dX0_likelihood_54 hl (k := 6) rfl (nI_add _ _) (by decide) rfl (fun ls hl => ?_)
      refine lv_goto (tgt := 37) hx hb dX0_likelihood_57 (by decide) ?_
      exact ih_37 (j + 1) ls (by omega) (lv_cast (k := [(0, .ref (a 0)), (1, .int (nI (c_))), (2, .int (nI (x))), (3, .int (nI (y))), (4, .int (nI (vs_ct v c_))), (5, .long (lN ((vs_ct v c_ ^ x * (10 - vs_ct v c_) ^ j) * (10 - (vs_ct v c_))))), (7, .int (nI (j + 1)))]) (lv_sub hl [2, 3, 4, 5, 6, 1, 0] rfl) (lc_cons rfl (lc_cons rfl (lc_cons rfl (lc_cons rfl (lc_cons rfl (lc_cons (congrArg (fun z : Nat => ((5 : Nat), Value.long (lN z))) (show ((vs_ct v c_ ^ x * (10 - vs_ct v c_) ^ j) * (10 - (vs_ct v c_)) : Nat) = vs_ct v c_ ^ x * (10 - vs_ct v c_) ^ (j + 1) from by rw [Nat.pow_succ, Nat.mul_assoc])) (lc_cons (congrArg (fun z : Nat => ((7 : Nat), Value.int (nI z))) (show (j + 1 : Nat) = (j + 1) from by first | rfl | omega)) rfl))))))))
  | succ n_14 ih_14 =>
    intro i ls hin_14 hl
    refine lv_iload hx hb dX0_likelihood_14 (lv_at hl 6 rfl) ?_
    refine lv_iload_n hx hb dX0_likelihood_16 rfl (lv_at hl 2 rfl) ?_
    refine nv_icmp_ge (tgt := 34) hx hb dX0_likelihood_17 (by decide) (by omega) (by omega) (fun z => absurd z (by omega)) (fun c_17 => ?_)
    refine lv_lload hx hb dX0_likelihood_20 (lv_at hl 5 rfl) ?_
    refine lv_iload hx hb dX0_likelihood_22 (lv_at hl 4 rfl) ?_
    refine nv_i2l hx hb dX0_likelihood_24 (by omega) ?_
    refine nv_lmul hx hb dX0_likelihood_25 rfl ?_
    refine lv_lstore (lv' := [(5, .long (lN ((vs_ct v c_ ^ i) * (vs_ct v c_)))), (0, .ref (a 0)), (1, .int (nI (c_))), (2, .int (nI (x))), (3, .int (nI (y))), (4, .int (nI (vs_ct v c_))), (7, .int (nI (i)))]) hx hb dX0_likelihood_26 hl (by decide) rfl (fun ls hl => ?_)
    refine lv_iinc (v := nI (i + 1)) (lv' := [(7, .int (nI (i + 1))), (5, .long (lN ((vs_ct v c_ ^ i) * (vs_ct v c_)))), (0, .ref (a 0)), (1, .int (nI (c_))), (2, .int (nI (x))), (3, .int (nI (y))), (4, .int (nI (vs_ct v c_)))]) hx hb dX0_likelihood_28 hl (k := 6) rfl (nI_add _ _) (by decide) rfl (fun ls hl => ?_)
    refine lv_goto (tgt := 14) hx hb dX0_likelihood_31 (by decide) ?_
    exact ih_14 (i + 1) ls (by omega) (lv_cast (k := [(0, .ref (a 0)), (1, .int (nI (c_))), (2, .int (nI (x))), (3, .int (nI (y))), (4, .int (nI (vs_ct v c_))), (5, .long (lN ((vs_ct v c_ ^ i) * (vs_ct v c_)))), (7, .int (nI (i + 1)))]) (lv_sub hl [2, 3, 4, 5, 6, 1, 0] rfl) (lc_cons rfl (lc_cons rfl (lc_cons rfl (lc_cons rfl (lc_cons rfl (lc_cons (congrArg (fun z : Nat => ((5 : Nat), Value.long (lN z))) (show ((vs_ct v c_ ^ i) * (vs_ct v c_) : Nat) = vs_ct v c_ ^ (i + 1) from by rw [Nat.pow_succ])) (lc_cons (congrArg (fun z : Nat => ((7 : Nat), Value.int (nI z))) (show (i + 1 : Nat) = (i + 1) from by first | rfl | omega)) rfl))))))))
set_option maxHeartbeats 4000000 in
set_option maxRecDepth 100000 in
theorem c_X0_coinWeightAt (l : Launch) (D : va_G) (κ : Nat → ClassId) (a : Nat → Nat) (v : VS) (hv : ok_v v) (c_ : Nat) (x : Nat) (y : Nat) (hc : c_ < 8) (hx2 : x ≤ 20) (hy : y ≤ 20) : Rd l yX0_coinWeightAt cX0_coinWeightAt 7 (some .long) 1 27 (Pw D (kt_ κ) (xw κ a v) [.ref (a 0), .int (nI (c_)), .int (nI (x)), .int (nI (y))]) (.long (lN (wt_ v c_ x y))) := by
  refine rd_intro (own := RX0) (by decide +kernel) rfl (Nat.le_of_ble_eq_true rfl) (fun p e s m args below meth c pc ls hx hb hr hlk d => ret_L hx hb hr hlk d) ?_
  intro p e s m args below meth c ls Qq hx hb hml hown hts hK hP hend hl
  have hl : lv_has ls 7 [(0, .ref (a 0)), (1, .int (nI (c_))), (2, .int (nI (x))), (3, .int (nI (y)))] := hl
  obtain ⟨hv1, hv2, hv3, hv4, hv5, hv6⟩ := id hv
  refine lv_lconst (v := lN (0)) hx hb dX0_coinWeightAt_0 (by decide) ?_
  refine lv_lstore (lv' := [(4, .long (lN (0))), (0, .ref (a 0)), (1, .int (nI (c_))), (2, .int (nI (x))), (3, .int (nI (y)))]) hx hb dX0_coinWeightAt_1 hl (by decide) rfl (fun ls hl => ?_)
  refine lv_iconst (v := nI (0)) hx hb dX0_coinWeightAt_3 (by decide) ?_
  refine lv_istore (lv' := [(6, .int (nI (0))), (4, .long (lN (0))), (0, .ref (a 0)), (1, .int (nI (c_))), (2, .int (nI (x))), (3, .int (nI (y)))]) hx hb dX0_coinWeightAt_4 hl (by decide) rfl (fun ls hl => ?_)
  suffices hloop_6 : ∀ (n_6 i : Nat) (ls : Array Slot), i + n_6 = vs_n v → lv_has ls 7 [(0, .ref (a 0)), (1, .int (nI (c_))), (2, .int (nI (x))), (3, .int (nI (y))), (4, .long (lN (sm_ (fun z => sw_ v z c_) i))), (6, .int (nI (i)))] → W p l e (rm_ 1 27) s m args below meth c s.heap [] 0 0 Qq (F0 m 6 ls []) from hloop_6 (vs_n v - 0) (0) ls (by omega) (lv_cast (k := [(0, .ref (a 0)), (1, .int (nI (c_))), (2, .int (nI (x))), (3, .int (nI (y))), (4, .long (lN (0))), (6, .int (nI (0)))]) (lv_sub hl [2, 3, 4, 5, 1, 0] rfl) (lc_cons rfl (lc_cons rfl (lc_cons rfl (lc_cons rfl (lc_cons (congrArg (fun z : Nat => ((4 : Nat), Value.long (lN z))) (show (0 : Nat) = sm_ (fun z => sw_ v z c_) 0 from by first | rfl | omega)) (lc_cons rfl rfl)))))))
  intro n_6
  induction n_6 with
  | zero =>
    intro i ls hin_6 hl
    have hi_6 : i = vs_n v := by omega
    refine lv_iload hx hb dX0_coinWeightAt_6 (lv_at hl 5 rfl) ?_
    refine lv_aload_n hx hb dX0_coinWeightAt_8 rfl (lv_at hl 0 rfl) ?_
    refine va_get (D := D) (ci := 0) (v := .int (nI (vs_n v))) (C := RX0) (T := TX0) (N := 7) hx hb hts i_X0 hown hK hP 0 rfl rfl 5 (by decide) (hts _ q_f_X0_29) (fun _ h9 => h9) rfl dX0_coinWeightAt_9 ?_
    refine nv_icmp_ge (tgt := 33) hx hb dX0_coinWeightAt_12 (by decide) (by omega) (by omega) (fun c_12 => ?_) (fun z => absurd z (by omega))
    refine lv_lload hx hb dX0_coinWeightAt_33 (lv_at hl 4 rfl) ?_
    refine lv_aload_n hx hb dX0_coinWeightAt_35 rfl (lv_at hl 0 rfl) ?_
    refine lv_iload_n hx hb dX0_coinWeightAt_36 rfl (lv_at hl 1 rfl) ?_
    refine lv_iload_n hx hb dX0_coinWeightAt_37 rfl (lv_at hl 2 rfl) ?_
    refine lv_iload_n hx hb dX0_coinWeightAt_38 rfl (lv_at hl 3 rfl) ?_
    refine rd_V (rest := [.long (lN (sm_ (fun z => sw_ v z c_) i))]) ⟨hx, hb, hml, hown, hts⟩ (c_X0_likelihood l D κ a v hv (c_) (x) (y) (by omega) (by omega) (by omega)) g_X0_89 n_X0_likelihood ⟨Nat.le_of_ble_eq_true rfl, Nat.le_of_ble_eq_true rfl⟩ hK hP rfl rfl rfl hl.1 rfl (Nat.le_of_ble_eq_true rfl) dX0_coinWeightAt_39 ⟨Nat.zero_le _, Nat.zero_le _⟩ ?_
    refine nv_lmul hx hb dX0_coinWeightAt_42 rfl ?_
    refine nv_topl (congrArg lN (show ((sm_ (fun z => sw_ v z c_) i) * (lk_ v c_ x y) : Nat) = wt_ v c_ x y from by rw [hi_6]; rfl)) ?_
    exact hend _ _ dX0_coinWeightAt_43
  | succ n_6 ih_6 =>
    intro i ls hin_6 hl
    refine lv_iload hx hb dX0_coinWeightAt_6 (lv_at hl 5 rfl) ?_
    refine lv_aload_n hx hb dX0_coinWeightAt_8 rfl (lv_at hl 0 rfl) ?_
    refine va_get (D := D) (ci := 0) (v := .int (nI (vs_n v))) (C := RX0) (T := TX0) (N := 7) hx hb hts i_X0 hown hK hP 0 rfl rfl 5 (by decide) (hts _ q_f_X0_29) (fun _ h9 => h9) rfl dX0_coinWeightAt_9 ?_
    refine nv_icmp_ge (tgt := 33) hx hb dX0_coinWeightAt_12 (by decide) (by omega) (by omega) (fun z => absurd z (by omega)) (fun c_12 => ?_)
    refine lv_lload hx hb dX0_coinWeightAt_15 (lv_at hl 4 rfl) ?_
    refine lv_aload_n hx hb dX0_coinWeightAt_17 rfl (lv_at hl 0 rfl) ?_
    refine lv_iload hx hb dX0_coinWeightAt_18 (lv_at hl 5 rfl) ?_
    refine lv_iload_n hx hb dX0_coinWeightAt_20 rfl (lv_at hl 1 rfl) ?_
    refine rd_V (rest := [.long (lN (sm_ (fun z => sw_ v z c_) i))]) ⟨hx, hb, hml, hown, hts⟩ (c_X0_startWeight l D κ a v hv (i) (c_) (by omega) (by omega)) g_X0_85 n_X0_startWeight ⟨Nat.le_of_ble_eq_true rfl, Nat.le_of_ble_eq_true rfl⟩ hK hP rfl rfl rfl hl.1 rfl (Nat.le_of_ble_eq_true rfl) dX0_coinWeightAt_21 ⟨Nat.zero_le _, Nat.zero_le _⟩ ?_
    refine nv_ladd hx hb dX0_coinWeightAt_24 rfl ?_
    refine lv_lstore (lv' := [(4, .long (lN ((sm_ (fun z => sw_ v z c_) i) + (sw_ v i c_)))), (0, .ref (a 0)), (1, .int (nI (c_))), (2, .int (nI (x))), (3, .int (nI (y))), (6, .int (nI (i)))]) hx hb dX0_coinWeightAt_25 hl (by decide) rfl (fun ls hl => ?_)
    refine lv_iinc (v := nI (i + 1)) (lv' := [(6, .int (nI (i + 1))), (4, .long (lN ((sm_ (fun z => sw_ v z c_) i) + (sw_ v i c_)))), (0, .ref (a 0)), (1, .int (nI (c_))), (2, .int (nI (x))), (3, .int (nI (y)))]) hx hb dX0_coinWeightAt_27 hl (k := 5) rfl (nI_add _ _) (by decide) rfl (fun ls hl => ?_)
    refine lv_goto (tgt := 6) hx hb dX0_coinWeightAt_30 (by decide) ?_
    exact ih_6 (i + 1) ls (by omega) (lv_cast (k := [(0, .ref (a 0)), (1, .int (nI (c_))), (2, .int (nI (x))), (3, .int (nI (y))), (4, .long (lN ((sm_ (fun z => sw_ v z c_) i) + (sw_ v i c_)))), (6, .int (nI (i + 1)))]) (lv_sub hl [2, 3, 4, 5, 1, 0] rfl) (lc_cons rfl (lc_cons rfl (lc_cons rfl (lc_cons rfl (lc_cons (congrArg (fun z : Nat => ((4 : Nat), Value.long (lN z))) (show ((sm_ (fun z => sw_ v z c_) i) + (sw_ v i c_) : Nat) = sm_ (fun z => sw_ v z c_) (i + 1) from by first | rfl | omega)) (lc_cons (congrArg (fun z : Nat => ((6 : Nat), Value.int (nI z))) (show (i + 1 : Nat) = (i + 1) from by first | rfl | omega)) rfl)))))))
set_option maxHeartbeats 4000000 in
set_option maxRecDepth 100000 in
theorem c_X0_schoolWeightNow (l : Launch) (D : va_G) (κ : Nat → ClassId) (a : Nat → Nat) (v : VS) (hv : ok_v v) (s_ : Nat) (hs : s_ < 4) : Rd l yX0_schoolWeightNow cX0_schoolWeightNow 7 (some .long) 2 43 (Pw D (kt_ κ) (xw κ a v) [.ref (a 0), .int (nI (s_))]) (.long (lN (sc_ v s_ (hh_ v) (tt_ v)))) := by
  refine rd_intro (own := RX0) (by decide +kernel) rfl (Nat.le_of_ble_eq_true rfl) (fun p e s m args below meth c pc ls hx hb hr hlk d => ret_L hx hb hr hlk d) ?_
  intro p e s m args below meth c ls Qq hx hb hml hown hts hK hP hend hl
  have hl : lv_has ls 7 [(0, .ref (a 0)), (1, .int (nI (s_)))] := hl
  obtain ⟨hv1, hv2, hv3, hv4, hv5, hv6⟩ := id hv
  have hq1 := hh_le v
  have hq2 := hh_tt v
  refine lv_aload_n hx hb dX0_schoolWeightNow_0 rfl (lv_at hl 0 rfl) ?_
  refine rd_V (rest := []) ⟨hx, hb, hml, hown, hts⟩ (c_X0_headsNow l D κ a v hv) g_X0_69 n_X0_headsNow ⟨Nat.le_of_ble_eq_true rfl, Nat.le_of_ble_eq_true rfl⟩ hK hP rfl rfl rfl hl.1 rfl (Nat.le_of_ble_eq_true rfl) dX0_schoolWeightNow_1 ⟨Nat.zero_le _, Nat.zero_le _⟩ ?_
  refine lv_istore_n (lv' := [(2, .int (nI (hh_ v))), (0, .ref (a 0)), (1, .int (nI (s_)))]) hx hb dX0_schoolWeightNow_4 rfl hl (by decide) rfl (fun ls hl => ?_)
  refine lv_aload_n hx hb dX0_schoolWeightNow_5 rfl (lv_at hl 1 rfl) ?_
  refine rd_V (rest := []) ⟨hx, hb, hml, hown, hts⟩ (c_X0_tailsNow l D κ a v hv) g_X0_73 n_X0_tailsNow ⟨Nat.le_of_ble_eq_true rfl, Nat.le_of_ble_eq_true rfl⟩ hK hP rfl rfl rfl hl.1 rfl (Nat.le_of_ble_eq_true rfl) dX0_schoolWeightNow_6 ⟨Nat.zero_le _, Nat.zero_le _⟩ ?_
  refine lv_istore_n (lv' := [(3, .int (nI (tt_ v))), (2, .int (nI (hh_ v))), (0, .ref (a 0)), (1, .int (nI (s_)))]) hx hb dX0_schoolWeightNow_9 rfl hl (by decide) rfl (fun ls hl => ?_)
  refine lv_lconst (v := lN (0)) hx hb dX0_schoolWeightNow_10 (by decide) ?_
  refine lv_lstore (lv' := [(4, .long (lN (0))), (3, .int (nI (tt_ v))), (2, .int (nI (hh_ v))), (0, .ref (a 0)), (1, .int (nI (s_)))]) hx hb dX0_schoolWeightNow_11 hl (by decide) rfl (fun ls hl => ?_)
  refine lv_iconst (v := nI (0)) hx hb dX0_schoolWeightNow_13 (by decide) ?_
  refine lv_istore (lv' := [(6, .int (nI (0))), (4, .long (lN (0))), (3, .int (nI (tt_ v))), (2, .int (nI (hh_ v))), (0, .ref (a 0)), (1, .int (nI (s_)))]) hx hb dX0_schoolWeightNow_14 hl (by decide) rfl (fun ls hl => ?_)
  suffices hloop_16 : ∀ (n_16 i : Nat) (ls : Array Slot), i + n_16 = vs_c v → lv_has ls 7 [(0, .ref (a 0)), (1, .int (nI (s_))), (2, .int (nI (hh_ v))), (3, .int (nI (tt_ v))), (4, .long (lN (sm_ (fun z => pr_ v s_ z (hh_ v) (tt_ v)) i))), (6, .int (nI (i)))] → W p l e (rm_ 2 43) s m args below meth c s.heap [] 0 0 Qq (F0 m 16 ls []) from hloop_16 (vs_c v - 0) (0) ls (by omega) (lv_cast (k := [(0, .ref (a 0)), (1, .int (nI (s_))), (2, .int (nI (hh_ v))), (3, .int (nI (tt_ v))), (4, .long (lN (0))), (6, .int (nI (0)))]) (lv_sub hl [4, 5, 3, 2, 1, 0] rfl) (lc_cons rfl (lc_cons rfl (lc_cons rfl (lc_cons rfl (lc_cons (congrArg (fun z : Nat => ((4 : Nat), Value.long (lN z))) (show (0 : Nat) = sm_ (fun z => pr_ v s_ z (hh_ v) (tt_ v)) 0 from by first | rfl | omega)) (lc_cons rfl rfl)))))))
  intro n_16
  induction n_16 with
  | zero =>
    intro i ls hin_16 hl
    have hi_16 : i = vs_c v := by omega
    refine lv_iload hx hb dX0_schoolWeightNow_16 (lv_at hl 5 rfl) ?_
    refine lv_aload_n hx hb dX0_schoolWeightNow_18 rfl (lv_at hl 0 rfl) ?_
    refine va_get (D := D) (ci := 0) (v := .int (nI (vs_c v))) (C := RX0) (T := TX0) (N := 7) hx hb hts i_X0 hown hK hP 0 rfl rfl 4 (by decide) (hts _ q_f_X0_25) (fun _ h9 => h9) rfl dX0_schoolWeightNow_19 ?_
    refine nv_icmp_ge (tgt := 52) hx hb dX0_schoolWeightNow_22 (by decide) (by omega) (by omega) (fun c_22 => ?_) (fun z => absurd z (by omega))
    refine lv_lload hx hb dX0_schoolWeightNow_52 (lv_at hl 4 rfl) ?_
    refine nv_topl (congrArg lN (show (sm_ (fun z => pr_ v s_ z (hh_ v) (tt_ v)) i : Nat) = sc_ v s_ (hh_ v) (tt_ v) from by rw [hi_16]; rfl)) ?_
    exact hend _ _ dX0_schoolWeightNow_54
  | succ n_16 ih_16 =>
    intro i ls hin_16 hl
    refine lv_iload hx hb dX0_schoolWeightNow_16 (lv_at hl 5 rfl) ?_
    refine lv_aload_n hx hb dX0_schoolWeightNow_18 rfl (lv_at hl 0 rfl) ?_
    refine va_get (D := D) (ci := 0) (v := .int (nI (vs_c v))) (C := RX0) (T := TX0) (N := 7) hx hb hts i_X0 hown hK hP 0 rfl rfl 4 (by decide) (hts _ q_f_X0_25) (fun _ h9 => h9) rfl dX0_schoolWeightNow_19 ?_
    refine nv_icmp_ge (tgt := 52) hx hb dX0_schoolWeightNow_22 (by decide) (by omega) (by omega) (fun z => absurd z (by omega)) (fun c_22 => ?_)
    refine lv_lload hx hb dX0_schoolWeightNow_25 (lv_at hl 4 rfl) ?_
    refine lv_aload_n hx hb dX0_schoolWeightNow_27 rfl (lv_at hl 0 rfl) ?_
    refine lv_iload_n hx hb dX0_schoolWeightNow_28 rfl (lv_at hl 1 rfl) ?_
    refine lv_iload hx hb dX0_schoolWeightNow_29 (lv_at hl 5 rfl) ?_
    refine rd_V (rest := [.long (lN (sm_ (fun z => pr_ v s_ z (hh_ v) (tt_ v)) i))]) ⟨hx, hb, hml, hown, hts⟩ (c_X0_startWeight l D κ a v hv (s_) (i) (by omega) (by omega)) g_X0_85 n_X0_startWeight ⟨Nat.le_of_ble_eq_true rfl, Nat.le_of_ble_eq_true rfl⟩ hK hP rfl rfl rfl hl.1 rfl (Nat.le_of_ble_eq_true rfl) dX0_schoolWeightNow_31 ⟨Nat.zero_le _, Nat.zero_le _⟩ ?_
    refine lv_aload_n hx hb dX0_schoolWeightNow_34 rfl (lv_at hl 0 rfl) ?_
    refine lv_iload hx hb dX0_schoolWeightNow_35 (lv_at hl 5 rfl) ?_
    refine lv_iload_n hx hb dX0_schoolWeightNow_37 rfl (lv_at hl 2 rfl) ?_
    refine lv_iload_n hx hb dX0_schoolWeightNow_38 rfl (lv_at hl 3 rfl) ?_
    refine rd_V (rest := [.long (lN (sw_ v s_ i)), .long (lN (sm_ (fun z => pr_ v s_ z (hh_ v) (tt_ v)) i))]) ⟨hx, hb, hml, hown, hts⟩ (c_X0_likelihood l D κ a v hv (i) (hh_ v) (tt_ v) (by omega) (by omega) (by omega)) g_X0_89 n_X0_likelihood ⟨Nat.le_of_ble_eq_true rfl, Nat.le_of_ble_eq_true rfl⟩ hK hP rfl rfl rfl hl.1 rfl (Nat.le_of_ble_eq_true rfl) dX0_schoolWeightNow_39 ⟨Nat.zero_le _, Nat.zero_le _⟩ ?_
    refine nv_lmul hx hb dX0_schoolWeightNow_42 rfl ?_
    refine nv_ladd hx hb dX0_schoolWeightNow_43 rfl ?_
    refine lv_lstore (lv' := [(4, .long (lN ((sm_ (fun z => pr_ v s_ z (hh_ v) (tt_ v)) i) + ((sw_ v s_ i) * (lk_ v i (hh_ v) (tt_ v)))))), (0, .ref (a 0)), (1, .int (nI (s_))), (2, .int (nI (hh_ v))), (3, .int (nI (tt_ v))), (6, .int (nI (i)))]) hx hb dX0_schoolWeightNow_44 hl (by decide) rfl (fun ls hl => ?_)
    refine lv_iinc (v := nI (i + 1)) (lv' := [(6, .int (nI (i + 1))), (4, .long (lN ((sm_ (fun z => pr_ v s_ z (hh_ v) (tt_ v)) i) + ((sw_ v s_ i) * (lk_ v i (hh_ v) (tt_ v)))))), (0, .ref (a 0)), (1, .int (nI (s_))), (2, .int (nI (hh_ v))), (3, .int (nI (tt_ v)))]) hx hb dX0_schoolWeightNow_46 hl (k := 5) rfl (nI_add _ _) (by decide) rfl (fun ls hl => ?_)
    refine lv_goto (tgt := 16) hx hb dX0_schoolWeightNow_49 (by decide) ?_
    exact ih_16 (i + 1) ls (by omega) (lv_cast (k := [(0, .ref (a 0)), (1, .int (nI (s_))), (2, .int (nI (hh_ v))), (3, .int (nI (tt_ v))), (4, .long (lN ((sm_ (fun z => pr_ v s_ z (hh_ v) (tt_ v)) i) + ((sw_ v s_ i) * (lk_ v i (hh_ v) (tt_ v)))))), (6, .int (nI (i + 1)))]) (lv_sub hl [2, 3, 4, 5, 1, 0] rfl) (lc_cons rfl (lc_cons rfl (lc_cons rfl (lc_cons rfl (lc_cons (congrArg (fun z : Nat => ((4 : Nat), Value.long (lN z))) (show ((sm_ (fun z => pr_ v s_ z (hh_ v) (tt_ v)) i) + ((sw_ v s_ i) * (lk_ v i (hh_ v) (tt_ v))) : Nat) = sm_ (fun z => pr_ v s_ z (hh_ v) (tt_ v)) (i + 1) from by first | rfl | omega)) (lc_cons (congrArg (fun z : Nat => ((6 : Nat), Value.int (nI z))) (show (i + 1 : Nat) = (i + 1) from by first | rfl | omega)) rfl)))))))
set_option maxHeartbeats 4000000 in
set_option maxRecDepth 100000 in
theorem c_X0_wholeAt (l : Launch) (D : va_G) (κ : Nat → ClassId) (a : Nat → Nat) (v : VS) (hv : ok_v v) (x : Nat) (y : Nat) (hx2 : x ≤ 20) (hy : y ≤ 20) : Rd l yX0_wholeAt cX0_wholeAt 6 (some .long) 2 53 (Pw D (kt_ κ) (xw κ a v) [.ref (a 0), .int (nI (x)), .int (nI (y))]) (.long (lN (wl_ v x y))) := by
  refine rd_intro (own := RX0) (by decide +kernel) rfl (Nat.le_of_ble_eq_true rfl) (fun p e s m args below meth c pc ls hx hb hr hlk d => ret_L hx hb hr hlk d) ?_
  intro p e s m args below meth c ls Qq hx hb hml hown hts hK hP hend hl
  have hl : lv_has ls 6 [(0, .ref (a 0)), (1, .int (nI (x))), (2, .int (nI (y)))] := hl
  obtain ⟨hv1, hv2, hv3, hv4, hv5, hv6⟩ := id hv
  refine lv_lconst (v := lN (0)) hx hb dX0_wholeAt_0 (by decide) ?_
  refine lv_lstore_n (lv' := [(3, .long (lN (0))), (0, .ref (a 0)), (1, .int (nI (x))), (2, .int (nI (y)))]) hx hb dX0_wholeAt_1 rfl hl (by decide) rfl (fun ls hl => ?_)
  refine lv_iconst (v := nI (0)) hx hb dX0_wholeAt_2 (by decide) ?_
  refine lv_istore (lv' := [(5, .int (nI (0))), (3, .long (lN (0))), (0, .ref (a 0)), (1, .int (nI (x))), (2, .int (nI (y)))]) hx hb dX0_wholeAt_3 hl (by decide) rfl (fun ls hl => ?_)
  suffices hloop_5 : ∀ (n_5 i : Nat) (ls : Array Slot), i + n_5 = vs_c v → lv_has ls 6 [(0, .ref (a 0)), (1, .int (nI (x))), (2, .int (nI (y))), (3, .long (lN (sm_ (fun z => wt_ v z x y) i))), (5, .int (nI (i)))] → W p l e (rm_ 2 53) s m args below meth c s.heap [] 0 0 Qq (F0 m 5 ls []) from hloop_5 (vs_c v - 0) (0) ls (by omega) (lv_cast (k := [(0, .ref (a 0)), (1, .int (nI (x))), (2, .int (nI (y))), (3, .long (lN (0))), (5, .int (nI (0)))]) (lv_sub hl [2, 3, 4, 1, 0] rfl) (lc_cons rfl (lc_cons rfl (lc_cons rfl (lc_cons (congrArg (fun z : Nat => ((3 : Nat), Value.long (lN z))) (show (0 : Nat) = sm_ (fun z => wt_ v z x y) 0 from by first | rfl | omega)) (lc_cons rfl rfl))))))
  intro n_5
  induction n_5 with
  | zero =>
    intro i ls hin_5 hl
    have hi_5 : i = vs_c v := by omega
    refine lv_iload hx hb dX0_wholeAt_5 (lv_at hl 4 rfl) ?_
    refine lv_aload_n hx hb dX0_wholeAt_7 rfl (lv_at hl 0 rfl) ?_
    refine va_get (D := D) (ci := 0) (v := .int (nI (vs_c v))) (C := RX0) (T := TX0) (N := 7) hx hb hts i_X0 hown hK hP 0 rfl rfl 4 (by decide) (hts _ q_f_X0_25) (fun _ h9 => h9) rfl dX0_wholeAt_8 ?_
    refine nv_icmp_ge (tgt := 31) hx hb dX0_wholeAt_11 (by decide) (by omega) (by omega) (fun c_11 => ?_) (fun z => absurd z (by omega))
    refine lv_lload_n hx hb dX0_wholeAt_31 rfl (lv_at hl 3 rfl) ?_
    refine nv_topl (congrArg lN (show (sm_ (fun z => wt_ v z x y) i : Nat) = wl_ v x y from by rw [hi_5]; rfl)) ?_
    exact hend _ _ dX0_wholeAt_32
  | succ n_5 ih_5 =>
    intro i ls hin_5 hl
    refine lv_iload hx hb dX0_wholeAt_5 (lv_at hl 4 rfl) ?_
    refine lv_aload_n hx hb dX0_wholeAt_7 rfl (lv_at hl 0 rfl) ?_
    refine va_get (D := D) (ci := 0) (v := .int (nI (vs_c v))) (C := RX0) (T := TX0) (N := 7) hx hb hts i_X0 hown hK hP 0 rfl rfl 4 (by decide) (hts _ q_f_X0_25) (fun _ h9 => h9) rfl dX0_wholeAt_8 ?_
    refine nv_icmp_ge (tgt := 31) hx hb dX0_wholeAt_11 (by decide) (by omega) (by omega) (fun z => absurd z (by omega)) (fun c_11 => ?_)
    refine lv_lload_n hx hb dX0_wholeAt_14 rfl (lv_at hl 3 rfl) ?_
    refine lv_aload_n hx hb dX0_wholeAt_15 rfl (lv_at hl 0 rfl) ?_
    refine lv_iload hx hb dX0_wholeAt_16 (lv_at hl 4 rfl) ?_
    refine lv_iload_n hx hb dX0_wholeAt_18 rfl (lv_at hl 1 rfl) ?_
    refine lv_iload_n hx hb dX0_wholeAt_19 rfl (lv_at hl 2 rfl) ?_
    refine rd_V (rest := [.long (lN (sm_ (fun z => wt_ v z x y) i))]) ⟨hx, hb, hml, hown, hts⟩ (c_X0_coinWeightAt l D κ a v hv (i) (x) (y) (by omega) (by omega) (by omega)) g_X0_93 n_X0_coinWeightAt ⟨Nat.le_of_ble_eq_true rfl, Nat.le_of_ble_eq_true rfl⟩ hK hP rfl rfl rfl hl.1 rfl (Nat.le_of_ble_eq_true rfl) dX0_wholeAt_20 ⟨Nat.zero_le _, Nat.zero_le _⟩ ?_
    refine nv_ladd hx hb dX0_wholeAt_23 rfl ?_
    refine lv_lstore_n (lv' := [(3, .long (lN ((sm_ (fun z => wt_ v z x y) i) + (wt_ v i x y)))), (0, .ref (a 0)), (1, .int (nI (x))), (2, .int (nI (y))), (5, .int (nI (i)))]) hx hb dX0_wholeAt_24 rfl hl (by decide) rfl (fun ls hl => ?_)
    refine lv_iinc (v := nI (i + 1)) (lv' := [(5, .int (nI (i + 1))), (3, .long (lN ((sm_ (fun z => wt_ v z x y) i) + (wt_ v i x y)))), (0, .ref (a 0)), (1, .int (nI (x))), (2, .int (nI (y)))]) hx hb dX0_wholeAt_25 hl (k := 4) rfl (nI_add _ _) (by decide) rfl (fun ls hl => ?_)
    refine lv_goto (tgt := 5) hx hb dX0_wholeAt_28 (by decide) ?_
    exact ih_5 (i + 1) ls (by omega) (lv_cast (k := [(0, .ref (a 0)), (1, .int (nI (x))), (2, .int (nI (y))), (3, .long (lN ((sm_ (fun z => wt_ v z x y) i) + (wt_ v i x y)))), (5, .int (nI (i + 1)))]) (lv_sub hl [2, 3, 4, 1, 0] rfl) (lc_cons rfl (lc_cons rfl (lc_cons rfl (lc_cons (congrArg (fun z : Nat => ((3 : Nat), Value.long (lN z))) (show ((sm_ (fun z => wt_ v z x y) i) + (wt_ v i x y) : Nat) = sm_ (fun z => wt_ v z x y) (i + 1) from by first | rfl | omega)) (lc_cons (congrArg (fun z : Nat => ((5 : Nat), Value.int (nI z))) (show (i + 1 : Nat) = (i + 1) from by first | rfl | omega)) rfl))))))
set_option maxHeartbeats 4000000 in
set_option maxRecDepth 100000 in
theorem c_X0_wholeNow (l : Launch) (D : va_G) (κ : Nat → ClassId) (a : Nat → Nat) (v : VS) (hv : ok_v v) : Rd l yX0_wholeNow cX0_wholeNow 1 (some .long) 3 78 (Pw D (kt_ κ) (xw κ a v) [.ref (a 0)]) (.long (lN (wl_ v (hh_ v) (tt_ v)))) := by
  refine rd_intro (own := RX0) (by decide +kernel) rfl (Nat.le_of_ble_eq_true rfl) (fun p e s m args below meth c pc ls hx hb hr hlk d => ret_L hx hb hr hlk d) ?_
  intro p e s m args below meth c ls Qq hx hb hml hown hts hK hP hend hl
  have hl : lv_has ls 1 [(0, .ref (a 0))] := hl
  obtain ⟨hv1, hv2, hv3, hv4, hv5, hv6⟩ := id hv
  have hq1 := hh_le v
  have hq2 := hh_tt v
  refine lv_aload_n hx hb dX0_wholeNow_0 rfl (lv_at hl 0 rfl) ?_
  refine lv_aload_n hx hb dX0_wholeNow_1 rfl (lv_at hl 0 rfl) ?_
  refine rd_V (rest := [.ref (a 0)]) ⟨hx, hb, hml, hown, hts⟩ (c_X0_headsNow l D κ a v hv) g_X0_69 n_X0_headsNow ⟨Nat.le_of_ble_eq_true rfl, Nat.le_of_ble_eq_true rfl⟩ hK hP rfl rfl rfl hl.1 rfl (Nat.le_of_ble_eq_true rfl) dX0_wholeNow_2 ⟨Nat.zero_le _, Nat.zero_le _⟩ ?_
  refine lv_aload_n hx hb dX0_wholeNow_5 rfl (lv_at hl 0 rfl) ?_
  refine rd_V (rest := [.int (nI (hh_ v)), .ref (a 0)]) ⟨hx, hb, hml, hown, hts⟩ (c_X0_tailsNow l D κ a v hv) g_X0_73 n_X0_tailsNow ⟨Nat.le_of_ble_eq_true rfl, Nat.le_of_ble_eq_true rfl⟩ hK hP rfl rfl rfl hl.1 rfl (Nat.le_of_ble_eq_true rfl) dX0_wholeNow_6 ⟨Nat.zero_le _, Nat.zero_le _⟩ ?_
  refine rd_V (rest := []) ⟨hx, hb, hml, hown, hts⟩ (c_X0_wholeAt l D κ a v hv (hh_ v) (tt_ v) (by omega) (by omega)) g_X0_180 n_X0_wholeAt ⟨Nat.le_of_ble_eq_true rfl, Nat.le_of_ble_eq_true rfl⟩ hK hP rfl rfl rfl hl.1 rfl (Nat.le_of_ble_eq_true rfl) dX0_wholeNow_9 ⟨Nat.zero_le _, Nat.zero_le _⟩ ?_
  exact hend _ _ dX0_wholeNow_12
set_option maxHeartbeats 4000000 in
set_option maxRecDepth 100000 in
theorem c_X0_leaderAt (l : Launch) (D : va_G) (κ : Nat → ClassId) (a : Nat → Nat) (v : VS) (hv : ok_v v) (x : Nat) (y : Nat) (hxy : x + y ≤ 13) : Rd l yX0_leaderAt cX0_leaderAt 9 (some .int) 2 53 (Pw D (kt_ κ) (xw κ a v) [.ref (a 0), .int (nI (x)), .int (nI (y))]) (.int (la_ v x y)) := by
  refine rd_intro (own := RX0) (by decide +kernel) rfl (Nat.le_of_ble_eq_true rfl) (fun p e s m args below meth c pc ls hx hb hr hlk d => ret_I hx hb hr hlk d) ?_
  intro p e s m args below meth c ls Qq hx hb hml hown hts hK hP hend hl
  have hl : lv_has ls 9 [(0, .ref (a 0)), (1, .int (nI (x))), (2, .int (nI (y)))] := hl
  obtain ⟨hv1, hv2, hv3, hv4, hv5, hv6⟩ := id hv
  refine lv_iconst (v := (-1)) hx hb dX0_leaderAt_0 (by decide) ?_
  refine lv_istore_n (lv' := [(3, .int (-1)), (0, .ref (a 0)), (1, .int (nI (x))), (2, .int (nI (y)))]) hx hb dX0_leaderAt_1 rfl hl (by decide) rfl (fun ls hl => ?_)
  refine lv_lconst (v := lN (0)) hx hb dX0_leaderAt_2 (by decide) ?_
  refine lv_lstore (lv' := [(4, .long (lN (0))), (3, .int (-1)), (0, .ref (a 0)), (1, .int (nI (x))), (2, .int (nI (y)))]) hx hb dX0_leaderAt_3 hl (by decide) rfl (fun ls hl => ?_)
  refine lv_iconst (v := nI (0)) hx hb dX0_leaderAt_5 (by decide) ?_
  refine lv_istore (lv' := [(6, .int (nI (0))), (4, .long (lN (0))), (3, .int (-1)), (0, .ref (a 0)), (1, .int (nI (x))), (2, .int (nI (y)))]) hx hb dX0_leaderAt_6 hl (by decide) rfl (fun ls hl => ?_)
  suffices hloop_8 : ∀ (n_8 i : Nat) (ls : Array Slot), i + n_8 = vs_c v → lv_has ls 9 [(0, .ref (a 0)), (1, .int (nI (x))), (2, .int (nI (y))), (3, .int (lq_ v x y i)), (4, .long (lN (gq_ v x y i))), (6, .int (nI (i)))] → W p l e (rm_ 2 53) s m args below meth c s.heap [] 0 0 Qq (F0 m 8 ls []) from hloop_8 (vs_c v - 0) (0) ls (by omega) (lv_cast (k := [(0, .ref (a 0)), (1, .int (nI (x))), (2, .int (nI (y))), (3, .int (-1)), (4, .long (lN (0))), (6, .int (nI (0)))]) (lv_sub hl [3, 4, 5, 2, 1, 0] rfl) (lc_cons rfl (lc_cons rfl (lc_cons rfl (lc_cons (congrArg (fun z : Int32 => ((3 : Nat), Value.int z)) (show (-1 : Int32) = lq_ v x y 0 from by rfl)) (lc_cons (congrArg (fun z : Nat => ((4 : Nat), Value.long (lN z))) (show (0 : Nat) = gq_ v x y 0 from by first | rfl | omega)) (lc_cons rfl rfl)))))))
  intro n_8
  induction n_8 with
  | zero =>
    intro i ls hin_8 hl
    have hi_8 : i = vs_c v := by omega
    have hb1 := wt_b hv i hxy
    have hb2 := gq_b hv i hxy
    refine lv_iload hx hb dX0_leaderAt_8 (lv_at hl 5 rfl) ?_
    refine lv_aload_n hx hb dX0_leaderAt_10 rfl (lv_at hl 0 rfl) ?_
    refine va_get (D := D) (ci := 0) (v := .int (nI (vs_c v))) (C := RX0) (T := TX0) (N := 7) hx hb hts i_X0 hown hK hP 0 rfl rfl 4 (by decide) (hts _ q_f_X0_25) (fun _ h9 => h9) rfl dX0_leaderAt_11 ?_
    refine nv_icmp_ge (tgt := 48) hx hb dX0_leaderAt_14 (by decide) (by omega) (by omega) (fun c_14 => ?_) (fun z => absurd z (by omega))
    refine lv_iload_n hx hb dX0_leaderAt_48 rfl (lv_at hl 3 rfl) ?_
    refine nv_topi (show (lq_ v x y i : Int32) = la_ v x y from by rw [hi_8]; exact lq_la v x y) ?_
    exact hend _ _ dX0_leaderAt_49
  | succ n_8 ih_8 =>
    intro i ls hin_8 hl
    have hb1 := wt_b hv i hxy
    have hb2 := gq_b hv i hxy
    refine lv_iload hx hb dX0_leaderAt_8 (lv_at hl 5 rfl) ?_
    refine lv_aload_n hx hb dX0_leaderAt_10 rfl (lv_at hl 0 rfl) ?_
    refine va_get (D := D) (ci := 0) (v := .int (nI (vs_c v))) (C := RX0) (T := TX0) (N := 7) hx hb hts i_X0 hown hK hP 0 rfl rfl 4 (by decide) (hts _ q_f_X0_25) (fun _ h9 => h9) rfl dX0_leaderAt_11 ?_
    refine nv_icmp_ge (tgt := 48) hx hb dX0_leaderAt_14 (by decide) (by omega) (by omega) (fun z => absurd z (by omega)) (fun c_14 => ?_)
    refine lv_aload_n hx hb dX0_leaderAt_17 rfl (lv_at hl 0 rfl) ?_
    refine lv_iload hx hb dX0_leaderAt_18 (lv_at hl 5 rfl) ?_
    refine lv_iload_n hx hb dX0_leaderAt_20 rfl (lv_at hl 1 rfl) ?_
    refine lv_iload_n hx hb dX0_leaderAt_21 rfl (lv_at hl 2 rfl) ?_
    refine rd_V (rest := []) ⟨hx, hb, hml, hown, hts⟩ (c_X0_coinWeightAt l D κ a v hv (i) (x) (y) (by omega) (by omega) (by omega)) g_X0_93 n_X0_coinWeightAt ⟨Nat.le_of_ble_eq_true rfl, Nat.le_of_ble_eq_true rfl⟩ hK hP rfl rfl rfl hl.1 rfl (Nat.le_of_ble_eq_true rfl) dX0_leaderAt_22 ⟨Nat.zero_le _, Nat.zero_le _⟩ ?_
    refine lv_lstore (lv' := [(7, .long (lN (wt_ v i x y))), (0, .ref (a 0)), (1, .int (nI (x))), (2, .int (nI (y))), (3, .int (lq_ v x y i)), (4, .long (lN (gq_ v x y i))), (6, .int (nI (i)))]) hx hb dX0_leaderAt_25 hl (by decide) rfl (fun ls hl => ?_)
    refine lv_lload hx hb dX0_leaderAt_27 (lv_at hl 0 rfl) ?_
    refine lv_lload hx hb dX0_leaderAt_29 (lv_at hl 5 rfl) ?_
    refine nv_lc_le (tgt := 42) hx hb dX0_leaderAt_31 dX0_leaderAt_32 (by decide) (by omega) (by omega) (fun c_32 => ?_) (fun c_32 => ?_)
    · refine lv_iinc (v := nI (i + 1)) (lv' := [(6, .int (nI (i + 1))), (7, .long (lN (wt_ v i x y))), (0, .ref (a 0)), (1, .int (nI (x))), (2, .int (nI (y))), (3, .int (lq_ v x y i)), (4, .long (lN (gq_ v x y i)))]) hx hb dX0_leaderAt_42 hl (k := 6) rfl (nI_add _ _) (by decide) rfl (fun ls hl => ?_)
      refine lv_goto (tgt := 8) hx hb dX0_leaderAt_45 (by decide) ?_
      exact ih_8 (i + 1) ls (by omega) (lv_cast (k := [(0, .ref (a 0)), (1, .int (nI (x))), (2, .int (nI (y))), (3, .int (lq_ v x y i)), (4, .long (lN (gq_ v x y i))), (6, .int (nI (i + 1)))]) (lv_sub hl [2, 3, 4, 5, 6, 0] rfl) (lc_cons rfl (lc_cons rfl (lc_cons rfl (lc_cons (congrArg (fun z : Int32 => ((3 : Nat), Value.int z)) (show (lq_ v x y i : Int32) = lq_ v x y (i + 1) from by first | exact lq_up c_32 | exact lq_eq c_32)) (lc_cons (congrArg (fun z : Nat => ((4 : Nat), Value.long (lN z))) (show (gq_ v x y i : Nat) = gq_ v x y (i + 1) from by first | exact gq_up c_32 | exact gq_eq c_32)) (lc_cons (congrArg (fun z : Nat => ((6 : Nat), Value.int (nI z))) (show (i + 1 : Nat) = (i + 1) from by first | rfl | omega)) rfl)))))))
    · refine lv_lload hx hb dX0_leaderAt_35 (lv_at hl 0 rfl) ?_
      refine lv_lstore (lv' := [(4, .long (lN (wt_ v i x y))), (7, .long (lN (wt_ v i x y))), (0, .ref (a 0)), (1, .int (nI (x))), (2, .int (nI (y))), (3, .int (lq_ v x y i)), (6, .int (nI (i)))]) hx hb dX0_leaderAt_37 hl (by decide) rfl (fun ls hl => ?_)
      refine lv_iload hx hb dX0_leaderAt_39 (lv_at hl 6 rfl) ?_
      refine lv_istore_n (lv' := [(3, .int (nI (i))), (4, .long (lN (wt_ v i x y))), (7, .long (lN (wt_ v i x y))), (0, .ref (a 0)), (1, .int (nI (x))), (2, .int (nI (y))), (6, .int (nI (i)))]) hx hb dX0_leaderAt_41 rfl hl (by decide) rfl (fun ls hl => ?_)
      refine lv_iinc (v := nI (i + 1)) (lv' := [(6, .int (nI (i + 1))), (3, .int (nI (i))), (4, .long (lN (wt_ v i x y))), (7, .long (lN (wt_ v i x y))), (0, .ref (a 0)), (1, .int (nI (x))), (2, .int (nI (y)))]) hx hb dX0_leaderAt_42 hl (k := 6) rfl (nI_add _ _) (by decide) rfl (fun ls hl => ?_)
      refine lv_goto (tgt := 8) hx hb dX0_leaderAt_45 (by decide) ?_
      exact ih_8 (i + 1) ls (by omega) (lv_cast (k := [(0, .ref (a 0)), (1, .int (nI (x))), (2, .int (nI (y))), (3, .int (nI (i))), (4, .long (lN (wt_ v i x y))), (6, .int (nI (i + 1)))]) (lv_sub hl [4, 5, 6, 1, 2, 0] rfl) (lc_cons rfl (lc_cons rfl (lc_cons rfl (lc_cons (congrArg (fun z : Int32 => ((3 : Nat), Value.int z)) (show (nI (i) : Int32) = lq_ v x y (i + 1) from by first | exact lq_up c_32 | exact lq_eq c_32)) (lc_cons (congrArg (fun z : Nat => ((4 : Nat), Value.long (lN z))) (show (wt_ v i x y : Nat) = gq_ v x y (i + 1) from by first | exact gq_up c_32 | exact gq_eq c_32)) (lc_cons (congrArg (fun z : Nat => ((6 : Nat), Value.int (nI z))) (show (i + 1 : Nat) = (i + 1) from by first | rfl | omega)) rfl)))))))
set_option maxHeartbeats 4000000 in
set_option maxRecDepth 100000 in
theorem c_X0_percent (l : Launch) (q : Nat) (r : Nat) (hq : q * 100 < 2 ^ 63) (hr0 : 0 < r) (hr1 : r < 2 ^ 63) : Rd l yX0_percent cX0_percent 4 (some .int) 0 0 (Pn [.long (lN (q)), .long (lN (r))]) (.int (nI (q * 100 / r))) := by
  refine rd_introS (own := RX0) (by decide +kernel) rfl (Nat.le_of_ble_eq_true rfl) (fun p e s m args below meth c pc ls hx hb hr hlk d => ret_I hx hb hr hlk d) ?_
  intro p e s m args below meth c ls Qq hx hb hml hown hts hend hl
  have hl : lv_has ls 4 [(0, .long (lN (q))), (2, .long (lN (r)))] := hl
  refine lv_lload_n hx hb dX0_percent_0 rfl (lv_at hl 1 rfl) ?_
  refine lv_lconst (v := lN (0)) hx hb dX0_percent_1 (by decide) ?_
  refine nv_lc_ne (tgt := 16) hx hb dX0_percent_2 dX0_percent_3 (by decide) (by omega) (by omega) (fun c_3 => ?_) (fun z => absurd z (by omega))
  refine lv_lload_n hx hb dX0_percent_16 rfl (lv_at hl 0 rfl) ?_
  refine lv_ldc2 (own := RX0) (index := 183) (v := lN (100)) hx hb hown (hts _ q_k_X0_183) dX0_percent_17 ?_
  refine nv_lmul hx hb dX0_percent_20 rfl ?_
  refine lv_lload_n hx hb dX0_percent_21 rfl (lv_at hl 1 rfl) ?_
  refine nv_ldiv hx hb dX0_percent_22 (by omega) (by omega) (by omega) rfl ?_
  refine nv_l2i hx hb dX0_percent_23 ?_
  refine nv_topi (congrArg nI (show ((q * 100) / r : Nat) = q * 100 / r from by first | rfl | omega)) ?_
  exact hend _ _ dX0_percent_24
set_option maxHeartbeats 4000000 in
set_option maxRecDepth 100000 in
theorem c_X0_chance (l : Launch) (D : va_G) (κ : Nat → ClassId) (a : Nat → Nat) (v : VS) (hv : ok_v v) (h_ : Bool) (x : Nat) (y : Nat) (hx2 : x ≤ 20) (hy : y ≤ 20) : Rd l yX0_chance cX0_chance 8 (some .long) 2 53 (Pw D (kt_ κ) (xw κ a v) [.ref (a 0), .int (bI (h_)), .int (nI (x)), .int (nI (y))]) (.long (lN (ch_ v h_ x y))) := by
  refine rd_intro (own := RX0) (by decide +kernel) rfl (Nat.le_of_ble_eq_true rfl) (fun p e s m args below meth c pc ls hx hb hr hlk d => ret_L hx hb hr hlk d) ?_
  intro p e s m args below meth c ls Qq hx hb hml hown hts hK hP hend hl
  have hl : lv_has ls 8 [(0, .ref (a 0)), (1, .int (bI (h_))), (2, .int (nI (x))), (3, .int (nI (y)))] := hl
  obtain ⟨hv1, hv2, hv3, hv4, hv5, hv6⟩ := id hv
  refine lv_lconst (v := lN (0)) hx hb dX0_chance_0 (by decide) ?_
  refine lv_lstore (lv' := [(4, .long (lN (0))), (0, .ref (a 0)), (1, .int (bI (h_))), (2, .int (nI (x))), (3, .int (nI (y)))]) hx hb dX0_chance_1 hl (by decide) rfl (fun ls hl => ?_)
  refine lv_iconst (v := nI (0)) hx hb dX0_chance_3 (by decide) ?_
  refine lv_istore (lv' := [(6, .int (nI (0))), (4, .long (lN (0))), (0, .ref (a 0)), (1, .int (bI (h_))), (2, .int (nI (x))), (3, .int (nI (y)))]) hx hb dX0_chance_4 hl (by decide) rfl (fun ls hl => ?_)
  suffices hloop_6 : ∀ (n_6 i : Nat) (ls : Array Slot), i + n_6 = vs_c v → lv_has ls 8 [(0, .ref (a 0)), (1, .int (bI (h_))), (2, .int (nI (x))), (3, .int (nI (y))), (4, .long (lN (sm_ (fun z => wt_ v z x y * (if h_ then vs_ct v z else 10 - vs_ct v z)) i))), (6, .int (nI (i)))] → W p l e (rm_ 2 53) s m args below meth c s.heap [] 0 0 Qq (F0 m 6 ls []) from hloop_6 (vs_c v - 0) (0) ls (by omega) (lv_cast (k := [(0, .ref (a 0)), (1, .int (bI (h_))), (2, .int (nI (x))), (3, .int (nI (y))), (4, .long (lN (0))), (6, .int (nI (0)))]) (lv_sub hl [2, 3, 4, 5, 1, 0] rfl) (lc_cons rfl (lc_cons rfl (lc_cons rfl (lc_cons rfl (lc_cons (congrArg (fun z : Nat => ((4 : Nat), Value.long (lN z))) (show (0 : Nat) = sm_ (fun z => wt_ v z x y * (if h_ then vs_ct v z else 10 - vs_ct v z)) 0 from by first | rfl | omega)) (lc_cons rfl rfl)))))))
  intro n_6
  induction n_6 with
  | zero =>
    intro i ls hin_6 hl
    have hi_6 : i = vs_c v := by omega
    have h4 := hv4 i
    refine lv_iload hx hb dX0_chance_6 (lv_at hl 5 rfl) ?_
    refine lv_aload_n hx hb dX0_chance_8 rfl (lv_at hl 0 rfl) ?_
    refine va_get (D := D) (ci := 0) (v := .int (nI (vs_c v))) (C := RX0) (T := TX0) (N := 7) hx hb hts i_X0 hown hK hP 0 rfl rfl 4 (by decide) (hts _ q_f_X0_25) (fun _ h9 => h9) rfl dX0_chance_9 ?_
    refine nv_icmp_ge (tgt := 64) hx hb dX0_chance_12 (by decide) (by omega) (by omega) (fun c_12 => ?_) (fun z => absurd z (by omega))
    refine lv_lload hx hb dX0_chance_64 (lv_at hl 4 rfl) ?_
    refine nv_topl (congrArg lN (show (sm_ (fun z => wt_ v z x y * (if h_ then vs_ct v z else 10 - vs_ct v z)) i : Nat) = ch_ v h_ x y from by rw [hi_6]; exact ch_sum v h_ x y)) ?_
    exact hend _ _ dX0_chance_66
  | succ n_6 ih_6 =>
    intro i ls hin_6 hl
    have h4 := hv4 i
    refine lv_iload hx hb dX0_chance_6 (lv_at hl 5 rfl) ?_
    refine lv_aload_n hx hb dX0_chance_8 rfl (lv_at hl 0 rfl) ?_
    refine va_get (D := D) (ci := 0) (v := .int (nI (vs_c v))) (C := RX0) (T := TX0) (N := 7) hx hb hts i_X0 hown hK hP 0 rfl rfl 4 (by decide) (hts _ q_f_X0_25) (fun _ h9 => h9) rfl dX0_chance_9 ?_
    refine nv_icmp_ge (tgt := 64) hx hb dX0_chance_12 (by decide) (by omega) (by omega) (fun z => absurd z (by omega)) (fun c_12 => ?_)
    refine lv_iload_n hx hb dX0_chance_15 rfl (lv_at hl 1 rfl) ?_
    refine bv_if_eq (tgt := 29) hx hb dX0_chance_16 (by decide) (fun c_16 => ?_) (fun c_16 => ?_)
    · refine lv_bipush (v := nI (10)) hx hb dX0_chance_29 (by decide) ?_
      refine lv_aload_n hx hb dX0_chance_31 rfl (lv_at hl 0 rfl) ?_
      refine va_get (D := D) (ci := 0) (v := .ref (a 1)) (C := RX0) (T := TX0) (N := 7) hx hb hts i_X0 hown hK hP 0 rfl rfl 0 (by decide) (hts _ q_f_X0_9) (fun _ h9 => h9) rfl dX0_chance_32 ?_
      refine lv_iload hx hb dX0_chance_35 (lv_at hl 5 rfl) ?_
      refine nv_iald hx hb hK hP 1 0 (n := 8) (v := nI (vs_ct v i)) rfl rfl (by omega) (by decide) rfl dX0_chance_37 ?_
      refine nv_isub (r := 10 - (vs_ct v i)) hx hb dX0_chance_38 (by omega) ?_
      refine lv_istore (lv' := [(7, .int (nI (10 - (vs_ct v i)))), (0, .ref (a 0)), (1, .int (bI (h_))), (2, .int (nI (x))), (3, .int (nI (y))), (4, .long (lN (sm_ (fun z => wt_ v z x y * (if h_ then vs_ct v z else 10 - vs_ct v z)) i))), (6, .int (nI (i)))]) hx hb dX0_chance_39 hl (by decide) rfl (fun ls hl => ?_)
      refine lv_lload hx hb dX0_chance_41 (lv_at hl 5 rfl) ?_
      refine lv_aload_n hx hb dX0_chance_43 rfl (lv_at hl 1 rfl) ?_
      refine lv_iload hx hb dX0_chance_44 (lv_at hl 6 rfl) ?_
      refine lv_iload_n hx hb dX0_chance_46 rfl (lv_at hl 3 rfl) ?_
      refine lv_iload_n hx hb dX0_chance_47 rfl (lv_at hl 4 rfl) ?_
      refine rd_V (rest := [.long (lN (sm_ (fun z => wt_ v z x y * (if h_ then vs_ct v z else 10 - vs_ct v z)) i))]) ⟨hx, hb, hml, hown, hts⟩ (c_X0_coinWeightAt l D κ a v hv (i) (x) (y) (by omega) (by omega) (by omega)) g_X0_93 n_X0_coinWeightAt ⟨Nat.le_of_ble_eq_true rfl, Nat.le_of_ble_eq_true rfl⟩ hK hP rfl rfl rfl hl.1 rfl (Nat.le_of_ble_eq_true rfl) dX0_chance_48 ⟨Nat.zero_le _, Nat.zero_le _⟩ ?_
      refine lv_iload hx hb dX0_chance_51 (lv_at hl 0 rfl) ?_
      refine nv_i2l hx hb dX0_chance_53 (by omega) ?_
      refine nv_lmul hx hb dX0_chance_54 rfl ?_
      refine nv_ladd hx hb dX0_chance_55 rfl ?_
      refine lv_lstore (lv' := [(4, .long (lN ((sm_ (fun z => wt_ v z x y * (if h_ then vs_ct v z else 10 - vs_ct v z)) i) + ((wt_ v i x y) * (10 - (vs_ct v i)))))), (7, .int (nI (10 - (vs_ct v i)))), (0, .ref (a 0)), (1, .int (bI (h_))), (2, .int (nI (x))), (3, .int (nI (y))), (6, .int (nI (i)))]) hx hb dX0_chance_56 hl (by decide) rfl (fun ls hl => ?_)
      refine lv_iinc (v := nI (i + 1)) (lv' := [(6, .int (nI (i + 1))), (4, .long (lN ((sm_ (fun z => wt_ v z x y * (if h_ then vs_ct v z else 10 - vs_ct v z)) i) + ((wt_ v i x y) * (10 - (vs_ct v i)))))), (7, .int (nI (10 - (vs_ct v i)))), (0, .ref (a 0)), (1, .int (bI (h_))), (2, .int (nI (x))), (3, .int (nI (y)))]) hx hb dX0_chance_58 hl (k := 6) rfl (nI_add _ _) (by decide) rfl (fun ls hl => ?_)
      refine lv_goto (tgt := 6) hx hb dX0_chance_61 (by decide) ?_
      exact ih_6 (i + 1) ls (by omega) (lv_cast (k := [(0, .ref (a 0)), (1, .int (bI (h_))), (2, .int (nI (x))), (3, .int (nI (y))), (4, .long (lN ((sm_ (fun z => wt_ v z x y * (if h_ then vs_ct v z else 10 - vs_ct v z)) i) + ((wt_ v i x y) * (10 - (vs_ct v i)))))), (6, .int (nI (i + 1)))]) (lv_sub hl [3, 4, 5, 6, 1, 0] rfl) (lc_cons rfl (lc_cons rfl (lc_cons rfl (lc_cons rfl (lc_cons (congrArg (fun z : Nat => ((4 : Nat), Value.long (lN z))) (show ((sm_ (fun z => wt_ v z x y * (if h_ then vs_ct v z else 10 - vs_ct v z)) i) + ((wt_ v i x y) * (10 - (vs_ct v i))) : Nat) = sm_ (fun z => wt_ v z x y * (if h_ then vs_ct v z else 10 - vs_ct v z)) (i + 1) from by simp [sm_, c_12, c_16])) (lc_cons (congrArg (fun z : Nat => ((6 : Nat), Value.int (nI z))) (show (i + 1 : Nat) = (i + 1) from by first | rfl | omega)) rfl)))))))
    · refine lv_aload_n hx hb dX0_chance_19 rfl (lv_at hl 0 rfl) ?_
      refine va_get (D := D) (ci := 0) (v := .ref (a 1)) (C := RX0) (T := TX0) (N := 7) hx hb hts i_X0 hown hK hP 0 rfl rfl 0 (by decide) (hts _ q_f_X0_9) (fun _ h9 => h9) rfl dX0_chance_20 ?_
      refine lv_iload hx hb dX0_chance_23 (lv_at hl 5 rfl) ?_
      refine nv_iald hx hb hK hP 1 0 (n := 8) (v := nI (vs_ct v i)) rfl rfl (by omega) (by decide) rfl dX0_chance_25 ?_
      refine lv_goto (tgt := 39) hx hb dX0_chance_26 (by decide) ?_
      refine lv_istore (lv' := [(7, .int (nI (vs_ct v i))), (0, .ref (a 0)), (1, .int (bI (h_))), (2, .int (nI (x))), (3, .int (nI (y))), (4, .long (lN (sm_ (fun z => wt_ v z x y * (if h_ then vs_ct v z else 10 - vs_ct v z)) i))), (6, .int (nI (i)))]) hx hb dX0_chance_39 hl (by decide) rfl (fun ls hl => ?_)
      refine lv_lload hx hb dX0_chance_41 (lv_at hl 5 rfl) ?_
      refine lv_aload_n hx hb dX0_chance_43 rfl (lv_at hl 1 rfl) ?_
      refine lv_iload hx hb dX0_chance_44 (lv_at hl 6 rfl) ?_
      refine lv_iload_n hx hb dX0_chance_46 rfl (lv_at hl 3 rfl) ?_
      refine lv_iload_n hx hb dX0_chance_47 rfl (lv_at hl 4 rfl) ?_
      refine rd_V (rest := [.long (lN (sm_ (fun z => wt_ v z x y * (if h_ then vs_ct v z else 10 - vs_ct v z)) i))]) ⟨hx, hb, hml, hown, hts⟩ (c_X0_coinWeightAt l D κ a v hv (i) (x) (y) (by omega) (by omega) (by omega)) g_X0_93 n_X0_coinWeightAt ⟨Nat.le_of_ble_eq_true rfl, Nat.le_of_ble_eq_true rfl⟩ hK hP rfl rfl rfl hl.1 rfl (Nat.le_of_ble_eq_true rfl) dX0_chance_48 ⟨Nat.zero_le _, Nat.zero_le _⟩ ?_
      refine lv_iload hx hb dX0_chance_51 (lv_at hl 0 rfl) ?_
      refine nv_i2l hx hb dX0_chance_53 (by omega) ?_
      refine nv_lmul hx hb dX0_chance_54 rfl ?_
      refine nv_ladd hx hb dX0_chance_55 rfl ?_
      refine lv_lstore (lv' := [(4, .long (lN ((sm_ (fun z => wt_ v z x y * (if h_ then vs_ct v z else 10 - vs_ct v z)) i) + ((wt_ v i x y) * (vs_ct v i))))), (7, .int (nI (vs_ct v i))), (0, .ref (a 0)), (1, .int (bI (h_))), (2, .int (nI (x))), (3, .int (nI (y))), (6, .int (nI (i)))]) hx hb dX0_chance_56 hl (by decide) rfl (fun ls hl => ?_)
      refine lv_iinc (v := nI (i + 1)) (lv' := [(6, .int (nI (i + 1))), (4, .long (lN ((sm_ (fun z => wt_ v z x y * (if h_ then vs_ct v z else 10 - vs_ct v z)) i) + ((wt_ v i x y) * (vs_ct v i))))), (7, .int (nI (vs_ct v i))), (0, .ref (a 0)), (1, .int (bI (h_))), (2, .int (nI (x))), (3, .int (nI (y)))]) hx hb dX0_chance_58 hl (k := 6) rfl (nI_add _ _) (by decide) rfl (fun ls hl => ?_)
      refine lv_goto (tgt := 6) hx hb dX0_chance_61 (by decide) ?_
      exact ih_6 (i + 1) ls (by omega) (lv_cast (k := [(0, .ref (a 0)), (1, .int (bI (h_))), (2, .int (nI (x))), (3, .int (nI (y))), (4, .long (lN ((sm_ (fun z => wt_ v z x y * (if h_ then vs_ct v z else 10 - vs_ct v z)) i) + ((wt_ v i x y) * (vs_ct v i))))), (6, .int (nI (i + 1)))]) (lv_sub hl [3, 4, 5, 6, 1, 0] rfl) (lc_cons rfl (lc_cons rfl (lc_cons rfl (lc_cons rfl (lc_cons (congrArg (fun z : Nat => ((4 : Nat), Value.long (lN z))) (show ((sm_ (fun z => wt_ v z x y * (if h_ then vs_ct v z else 10 - vs_ct v z)) i) + ((wt_ v i x y) * (vs_ct v i)) : Nat) = sm_ (fun z => wt_ v z x y * (if h_ then vs_ct v z else 10 - vs_ct v z)) (i + 1) from by simp [sm_, c_12, c_16])) (lc_cons (congrArg (fun z : Nat => ((6 : Nat), Value.int (nI z))) (show (i + 1 : Nat) = (i + 1) from by first | rfl | omega)) rfl)))))))
set_option maxHeartbeats 4000000 in
set_option maxRecDepth 100000 in
theorem c_X0_surpriseBehind (l : Launch) (D : va_G) (κ : Nat → ClassId) (a : Nat → Nat) (v : VS) (hv : ok_v v) (h_ : Bool) (x : Nat) (y : Nat) (hxy : x + y ≤ 12) : Rd l yX0_surpriseBehind cX0_surpriseBehind 9 (some .int) 3 80 (Pw D (kt_ κ) (xw κ a v) [.ref (a 0), .int (bI (h_)), .int (nI (x)), .int (nI (y))]) (.int (nI (su_ v h_ x y))) := by
  refine rd_intro (own := RX0) (by decide +kernel) rfl (Nat.le_of_ble_eq_true rfl) (fun p e s m args below meth c pc ls hx hb hr hlk d => ret_I hx hb hr hlk d) ?_
  intro p e s m args below meth c ls Qq hx hb hml hown hts hK hP hend hl
  have hl : lv_has ls 9 [(0, .ref (a 0)), (1, .int (bI (h_))), (2, .int (nI (x))), (3, .int (nI (y)))] := hl
  obtain ⟨hv1, hv2, hv3, hv4, hv5, hv6⟩ := id hv
  have hb1 := wl_b12 hv hxy
  have hb2 := ch_b hv h_ hxy
  refine lv_ldc2 (own := RX0) (index := 185) (v := lN (10)) hx hb hown (hts _ q_k_X0_185) dX0_surpriseBehind_0 ?_
  refine lv_aload_n hx hb dX0_surpriseBehind_3 rfl (lv_at hl 0 rfl) ?_
  refine lv_iload_n hx hb dX0_surpriseBehind_4 rfl (lv_at hl 2 rfl) ?_
  refine lv_iload_n hx hb dX0_surpriseBehind_5 rfl (lv_at hl 3 rfl) ?_
  refine rd_V (rest := [.long (lN (10))]) ⟨hx, hb, hml, hown, hts⟩ (c_X0_wholeAt l D κ a v hv (x) (y) (by omega) (by omega)) g_X0_180 n_X0_wholeAt ⟨Nat.le_of_ble_eq_true rfl, Nat.le_of_ble_eq_true rfl⟩ hK hP rfl rfl rfl hl.1 rfl (Nat.le_of_ble_eq_true rfl) dX0_surpriseBehind_6 ⟨Nat.zero_le _, Nat.zero_le _⟩ ?_
  refine nv_lmul hx hb dX0_surpriseBehind_9 rfl ?_
  refine lv_lstore (lv' := [(4, .long (lN (10 * (wl_ v x y)))), (0, .ref (a 0)), (1, .int (bI (h_))), (2, .int (nI (x))), (3, .int (nI (y)))]) hx hb dX0_surpriseBehind_10 hl (by decide) rfl (fun ls hl => ?_)
  refine lv_aload_n hx hb dX0_surpriseBehind_12 rfl (lv_at hl 1 rfl) ?_
  refine lv_iload_n hx hb dX0_surpriseBehind_13 rfl (lv_at hl 2 rfl) ?_
  refine lv_iload_n hx hb dX0_surpriseBehind_14 rfl (lv_at hl 3 rfl) ?_
  refine lv_iload_n hx hb dX0_surpriseBehind_15 rfl (lv_at hl 4 rfl) ?_
  refine rd_V (rest := []) ⟨hx, hb, hml, hown, hts⟩ (c_X0_chance l D κ a v hv (h_) (x) (y) (by omega) (by omega)) g_X0_120 n_X0_chance ⟨Nat.le_of_ble_eq_true rfl, Nat.le_of_ble_eq_true rfl⟩ hK hP rfl rfl rfl hl.1 rfl (Nat.le_of_ble_eq_true rfl) dX0_surpriseBehind_16 ⟨Nat.zero_le _, Nat.zero_le _⟩ ?_
  refine lv_ldc2 (own := RX0) (index := 187) (v := lN (2)) hx hb hown (hts _ q_k_X0_187) dX0_surpriseBehind_19 ?_
  refine nv_lmul hx hb dX0_surpriseBehind_22 rfl ?_
  refine lv_lstore (lv' := [(6, .long (lN ((ch_ v h_ x y) * 2))), (4, .long (lN (10 * (wl_ v x y)))), (0, .ref (a 0)), (1, .int (bI (h_))), (2, .int (nI (x))), (3, .int (nI (y)))]) hx hb dX0_surpriseBehind_23 hl (by decide) rfl (fun ls hl => ?_)
  refine lv_iconst (v := nI (0)) hx hb dX0_surpriseBehind_25 (by decide) ?_
  refine lv_istore (lv' := [(8, .int (nI (0))), (6, .long (lN ((ch_ v h_ x y) * 2))), (4, .long (lN (10 * (wl_ v x y)))), (0, .ref (a 0)), (1, .int (bI (h_))), (2, .int (nI (x))), (3, .int (nI (y)))]) hx hb dX0_surpriseBehind_26 hl (by decide) rfl (fun ls hl => ?_)
  suffices hloop_28 : ∀ (n_28 i : Nat) (ls : Array Slot), i + n_28 = 60 → lv_has ls 9 [(0, .ref (a 0)), (1, .int (bI (h_))), (2, .int (nI (x))), (3, .int (nI (y))), (4, .long (lN (10 * (wl_ v x y)))), (6, .long (lN (2 ^ i * (2 * ch_ v h_ x y)))), (8, .int (nI (i)))] → (su_ v h_ x y = sd_ (2 ^ i * (2 * ch_ v h_ x y)) (10 * wl_ v x y) (60 - i) + i) → (2 ^ i * (2 * ch_ v h_ x y) ≤ 51840000000000000) → W p l e (rm_ 3 80) s m args below meth c s.heap [] 0 0 Qq (F0 m 28 ls []) from hloop_28 (60 - 0) (0) ls (by omega) (lv_cast (k := [(0, .ref (a 0)), (1, .int (bI (h_))), (2, .int (nI (x))), (3, .int (nI (y))), (4, .long (lN (10 * (wl_ v x y)))), (6, .long (lN ((ch_ v h_ x y) * 2))), (8, .int (nI (0)))]) (lv_sub hl [3, 4, 5, 6, 2, 1, 0] rfl) (lc_cons rfl (lc_cons rfl (lc_cons rfl (lc_cons rfl (lc_cons rfl (lc_cons (congrArg (fun z : Nat => ((6 : Nat), Value.long (lN z))) (show ((ch_ v h_ x y) * 2 : Nat) = 2 ^ 0 * (2 * ch_ v h_ x y) from by rw [Nat.pow_zero, Nat.one_mul, Nat.mul_comm])) (lc_cons rfl rfl)))))))) (by rw [Nat.pow_zero, Nat.one_mul]; rfl) (by rw [Nat.pow_zero, Nat.one_mul]; omega)
  intro n_28
  induction n_28 with
  | zero =>
    intro i ls hin_28 hl hj1 hj2
    have hi_28 : i = 60 := by omega
    refine lv_lload hx hb dX0_surpriseBehind_28 (lv_at hl 5 rfl) ?_
    refine lv_lload hx hb dX0_surpriseBehind_30 (lv_at hl 4 rfl) ?_
    refine nv_lc_gt (tgt := 57) hx hb dX0_surpriseBehind_32 dX0_surpriseBehind_33 (by decide) (by omega) (by omega) (fun c_33 => ?_) (fun c_33 => ?_)
    · refine lv_iload hx hb dX0_surpriseBehind_57 (lv_at hl 6 rfl) ?_
      refine nv_topi (congrArg nI (show (i : Nat) = su_ v h_ x y from by first | exact su_stop hj1 c_33 | exact su_zero hj1 hi_28)) ?_
      exact hend _ _ dX0_surpriseBehind_59
    · refine lv_iload hx hb dX0_surpriseBehind_36 (lv_at hl 6 rfl) ?_
      refine lv_bipush (v := nI (60)) hx hb dX0_surpriseBehind_38 (by decide) ?_
      refine nv_icmp_ge (tgt := 57) hx hb dX0_surpriseBehind_40 (by decide) (by omega) (by omega) (fun c_40 => ?_) (fun z => absurd z (by omega))
      refine lv_iload hx hb dX0_surpriseBehind_57 (lv_at hl 6 rfl) ?_
      refine nv_topi (congrArg nI (show (i : Nat) = su_ v h_ x y from by first | exact su_stop hj1 c_33 | exact su_zero hj1 hi_28)) ?_
      exact hend _ _ dX0_surpriseBehind_59
  | succ n_28 ih_28 =>
    intro i ls hin_28 hl hj1 hj2
    refine lv_lload hx hb dX0_surpriseBehind_28 (lv_at hl 5 rfl) ?_
    refine lv_lload hx hb dX0_surpriseBehind_30 (lv_at hl 4 rfl) ?_
    refine nv_lc_gt (tgt := 57) hx hb dX0_surpriseBehind_32 dX0_surpriseBehind_33 (by decide) (by omega) (by omega) (fun c_33 => ?_) (fun c_33 => ?_)
    · refine lv_iload hx hb dX0_surpriseBehind_57 (lv_at hl 6 rfl) ?_
      refine nv_topi (congrArg nI (show (i : Nat) = su_ v h_ x y from by first | exact su_stop hj1 c_33 | exact su_zero hj1 hi_28)) ?_
      exact hend _ _ dX0_surpriseBehind_59
    · refine lv_iload hx hb dX0_surpriseBehind_36 (lv_at hl 6 rfl) ?_
      refine lv_bipush (v := nI (60)) hx hb dX0_surpriseBehind_38 (by decide) ?_
      refine nv_icmp_ge (tgt := 57) hx hb dX0_surpriseBehind_40 (by decide) (by omega) (by omega) (fun z => absurd z (by omega)) (fun c_40 => ?_)
      refine lv_lload hx hb dX0_surpriseBehind_43 (lv_at hl 5 rfl) ?_
      refine lv_ldc2 (own := RX0) (index := 187) (v := lN (2)) hx hb hown (hts _ q_k_X0_187) dX0_surpriseBehind_45 ?_
      refine nv_lmul hx hb dX0_surpriseBehind_48 rfl ?_
      refine lv_lstore (lv' := [(6, .long (lN ((2 ^ i * (2 * ch_ v h_ x y)) * 2))), (0, .ref (a 0)), (1, .int (bI (h_))), (2, .int (nI (x))), (3, .int (nI (y))), (4, .long (lN (10 * (wl_ v x y)))), (8, .int (nI (i)))]) hx hb dX0_surpriseBehind_49 hl (by decide) rfl (fun ls hl => ?_)
      refine lv_iinc (v := nI (i + 1)) (lv' := [(8, .int (nI (i + 1))), (6, .long (lN ((2 ^ i * (2 * ch_ v h_ x y)) * 2))), (0, .ref (a 0)), (1, .int (bI (h_))), (2, .int (nI (x))), (3, .int (nI (y))), (4, .long (lN (10 * (wl_ v x y))))]) hx hb dX0_surpriseBehind_51 hl (k := 6) rfl (nI_add _ _) (by decide) rfl (fun ls hl => ?_)
      refine lv_goto (tgt := 28) hx hb dX0_surpriseBehind_54 (by decide) ?_
      exact ih_28 (i + 1) ls (by omega) (lv_cast (k := [(0, .ref (a 0)), (1, .int (bI (h_))), (2, .int (nI (x))), (3, .int (nI (y))), (4, .long (lN (10 * (wl_ v x y)))), (6, .long (lN ((2 ^ i * (2 * ch_ v h_ x y)) * 2))), (8, .int (nI (i + 1)))]) (lv_sub hl [2, 3, 4, 5, 6, 1, 0] rfl) (lc_cons rfl (lc_cons rfl (lc_cons rfl (lc_cons rfl (lc_cons rfl (lc_cons (congrArg (fun z : Nat => ((6 : Nat), Value.long (lN z))) (show ((2 ^ i * (2 * ch_ v h_ x y)) * 2 : Nat) = 2 ^ (i + 1) * (2 * ch_ v h_ x y) from by rw [Nat.pow_succ, Nat.mul_right_comm])) (lc_cons (congrArg (fun z : Nat => ((8 : Nat), Value.int (nI z))) (show (i + 1 : Nat) = (i + 1) from by first | rfl | omega)) rfl)))))))) (su_step hj1 (by omega) c_33) (by rw [Nat.pow_succ, Nat.mul_right_comm]; omega)
set_option maxHeartbeats 4000000 in
set_option maxRecDepth 100000 in
theorem c_X0_surpriseAt (l : Launch) (D : va_G) (κ : Nat → ClassId) (a : Nat → Nat) (v : VS) (hv : ok_v v) (t_ : Nat) (ht : t_ < vs_t v) : Rd l yX0_surpriseAt cX0_surpriseAt 3 (some .int) 4 108 (Pw D (kt_ κ) (xw κ a v) [.ref (a 0), .int (nI (t_))]) (.int (nI (sa_ v t_))) := by
  refine rd_intro (own := RX0) (by decide +kernel) rfl (Nat.le_of_ble_eq_true rfl) (fun p e s m args below meth c pc ls hx hb hr hlk d => ret_I hx hb hr hlk d) ?_
  intro p e s m args below meth c ls Qq hx hb hml hown hts hK hP hend hl
  have hl : lv_has ls 3 [(0, .ref (a 0)), (1, .int (nI (t_)))] := hl
  obtain ⟨hv1, hv2, hv3, hv4, hv5, hv6⟩ := id hv
  have hq := hd_le (vs_th v) t_
  refine lv_aload_n hx hb dX0_surpriseAt_0 rfl (lv_at hl 0 rfl) ?_
  refine lv_iload_n hx hb dX0_surpriseAt_1 rfl (lv_at hl 1 rfl) ?_
  refine rd_V (rest := []) ⟨hx, hb, hml, hown, hts⟩ (c_X0_headsAhead l D κ a v hv (t_) (by omega)) g_X0_177 n_X0_headsAhead ⟨Nat.le_of_ble_eq_true rfl, Nat.le_of_ble_eq_true rfl⟩ hK hP rfl rfl rfl hl.1 rfl (Nat.le_of_ble_eq_true rfl) dX0_surpriseAt_2 ⟨Nat.zero_le _, Nat.zero_le _⟩ ?_
  refine lv_istore_n (lv' := [(2, .int (nI (hd_ (vs_th v) t_))), (0, .ref (a 0)), (1, .int (nI (t_)))]) hx hb dX0_surpriseAt_5 rfl hl (by decide) rfl (fun ls hl => ?_)
  refine lv_aload_n hx hb dX0_surpriseAt_6 rfl (lv_at hl 1 rfl) ?_
  refine lv_aload_n hx hb dX0_surpriseAt_7 rfl (lv_at hl 1 rfl) ?_
  refine va_get (D := D) (ci := 0) (v := .ref (a 4)) (C := RX0) (T := TX0) (N := 7) hx hb hts i_X0 hown hK hP 0 rfl rfl 3 (by decide) (hts _ q_f_X0_21) (fun _ h9 => h9) rfl dX0_surpriseAt_8 ?_
  refine lv_iload_n hx hb dX0_surpriseAt_11 rfl (lv_at hl 2 rfl) ?_
  refine nv_zald hx hb hK hP 4 2 (n := 12) (v := bI (vs_th v t_)) rfl rfl (by omega) (by decide) rfl dX0_surpriseAt_12 ?_
  refine lv_iload_n hx hb dX0_surpriseAt_13 rfl (lv_at hl 0 rfl) ?_
  refine lv_iload_n hx hb dX0_surpriseAt_14 rfl (lv_at hl 2 rfl) ?_
  refine lv_iload_n hx hb dX0_surpriseAt_15 rfl (lv_at hl 0 rfl) ?_
  refine nv_isub (r := t_ - (hd_ (vs_th v) t_)) hx hb dX0_surpriseAt_16 (by omega) ?_
  refine rd_V (rest := []) ⟨hx, hb, hml, hown, hts⟩ (c_X0_surpriseBehind l D κ a v hv (vs_th v t_) (hd_ (vs_th v) t_) (t_ - (hd_ (vs_th v) t_)) (by omega)) g_X0_76 n_X0_surpriseBehind ⟨Nat.le_of_ble_eq_true rfl, Nat.le_of_ble_eq_true rfl⟩ hK hP rfl rfl rfl hl.1 rfl (Nat.le_of_ble_eq_true rfl) dX0_surpriseAt_17 ⟨Nat.zero_le _, Nat.zero_le _⟩ ?_
  refine nv_topi (congrArg nI (show (su_ v (vs_th v t_) (hd_ (vs_th v) t_) (t_ - (hd_ (vs_th v) t_)) : Nat) = sa_ v t_ from by first | rfl | omega)) ?_
  exact hend _ _ dX0_surpriseAt_20
set_option maxHeartbeats 4000000 in
set_option maxRecDepth 100000 in
theorem c_X0_digestWith (l : Launch) (d_ : Int64) (x : Int64) : Rd l yX0_digestWith cX0_digestWith 4 (some .long) 0 0 (Pn [.long (d_), .long (x)]) (.long (dg_ d_ x)) := by
  refine rd_introS (own := RX0) (by decide +kernel) rfl (Nat.le_of_ble_eq_true rfl) (fun p e s m args below meth c pc ls hx hb hr hlk d => ret_L hx hb hr hlk d) ?_
  intro p e s m args below meth c ls Qq hx hb hml hown hts hend hl
  have hl : lv_has ls 4 [(0, .long (d_)), (2, .long (x))] := hl
  refine lv_lload_n hx hb dX0_digestWith_0 rfl (lv_at hl 0 rfl) ?_
  refine lv_ldc2 (own := RX0) (index := 189) (v := lN (31)) hx hb hown (hts _ q_k_X0_189) dX0_digestWith_1 ?_
  refine lv_lmul hx hb dX0_digestWith_4 ?_
  refine lv_lload_n hx hb dX0_digestWith_5 rfl (lv_at hl 1 rfl) ?_
  refine lv_ladd hx hb dX0_digestWith_6 ?_
  refine nv_topl (show (((d_) * (lN (31))) + (x) : Int64) = dg_ d_ x from by first | rfl | omega) ?_
  exact hend _ _ dX0_digestWith_7
