set_option maxHeartbeats 4000000 in
set_option maxRecDepth 100000 in
theorem c_X0_percent_x (l : Launch) (hls : l.stackTraces = false) (q : Int64) (r : Nat) (hr : r = 0) : Tx l yX0_percent cX0_percent 4 (some .int) 6 82 (Pnt [.long (q), .long (lN (r))]) "java/lang/IllegalStateException" := by
  refine tx_introS (own := RX0) (by decide +kernel) rfl (Nat.le_of_ble_eq_true rfl) ?_
  intro p e s m args below meth c ls hx hb hml hown hts hT ht hlocks hl
  have hl : lv_has ls 4 [(0, .long (q)), (2, .long (lN (r)))] := hl
  refine lv_lload_n hx hb dX0_percent_0 rfl (lv_at hl 1 rfl) ?_
  refine lv_lconst (v := lN (0)) hx hb dX0_percent_1 (by decide) ?_
  refine nv_lc_ne (tgt := 16) hx hb dX0_percent_2 dX0_percent_3 (by decide) (by omega) (by omega) (fun z => absurd z (by omega)) (fun c_3 => ?_)
  exact tx_throw hx hb hls hown hts hT tg0_ISE q_cl_X0_42 q_ie_ISE (show ((112 : Nat), "the whole weight is 0") ∈ lw_strs by decide) tg1_ISE tg2_ISE tg3_ISE (hl.1.trans hml.symm) dX0_percent_6 dX0_percent_9 dX0_percent_10 dX0_percent_12 dX0_percent_15 ht (Nat.le_of_ble_eq_true rfl) (Nat.le_of_ble_eq_true rfl) (Nat.le_of_ble_eq_true rfl) (Nat.le_of_ble_eq_true rfl) hlocks
set_option maxHeartbeats 4000000 in
set_option maxRecDepth 100000 in
theorem c_X0_needCoin_x (l : Launch) (D : va_G) (κ : Nat → ClassId) (a : Nat → Nat) (v : VS) (hv : ok_v v) (hls : l.stackTraces = false) (x : Int32) (hx0 : ix_ x (vs_c v) = false) : Tx l yX0_needCoin cX0_needCoin 2 none 6 82 (Pt_ D (kt_ κ) (xw κ a v) [.ref (a 0), .int (x)]) "java/lang/IndexOutOfBoundsException" := by
  refine tx_intro (own := RX0) (by decide +kernel) rfl (Nat.le_of_ble_eq_true rfl) ?_
  intro p e s m args below meth c ls hx hb hml hown hts hK hP hT ht hlocks hl
  have hl : lv_has ls 2 [(0, .ref (a 0)), (1, .int (x))] := hl
  obtain ⟨hv1, hv2, hv3, hv4, hv5, hv6⟩ := id hv
  refine lv_iload_n hx hb dX0_needCoin_0 rfl (lv_at hl 1 rfl) ?_
  refine lv_if_lt (tgt := 12) hx hb dX0_needCoin_1 (by decide) (fun c_1 => ?_) (fun c_1 => ?_)
  · exact tx_throw hx hb hls hown hts hT tg0_IOB q_cl_X0_164 q_ie_IOB (show ((166 : Nat), "there is no such coin") ∈ lw_strs by decide) tg1_IOB tg2_IOB tg3_IOB (hl.1.trans hml.symm) dX0_needCoin_12 dX0_needCoin_15 dX0_needCoin_16 dX0_needCoin_18 dX0_needCoin_21 ht (Nat.le_of_ble_eq_true rfl) (Nat.le_of_ble_eq_true rfl) (Nat.le_of_ble_eq_true rfl) (Nat.le_of_ble_eq_true rfl) hlocks
  · refine lv_iload_n hx hb dX0_needCoin_4 rfl (lv_at hl 1 rfl) ?_
    refine lv_aload_n hx hb dX0_needCoin_5 rfl (lv_at hl 0 rfl) ?_
    refine va_get (D := D) (ci := 0) (v := .int (nI (vs_c v))) (C := RX0) (T := TX0) (N := 7) hx hb hts i_X0 hown hK hP 0 rfl rfl 4 (by decide) (hts _ q_f_X0_25) (fun _ h9 => h9) rfl dX0_needCoin_6 ?_
    refine lv_icmp_lt (tgt := 22) hx hb dX0_needCoin_9 (by decide) (fun z => absurd z (ix_no hx0 c_1 (by omega))) (fun c_9 => ?_)
    exact tx_throw hx hb hls hown hts hT tg0_IOB q_cl_X0_164 q_ie_IOB (show ((166 : Nat), "there is no such coin") ∈ lw_strs by decide) tg1_IOB tg2_IOB tg3_IOB (hl.1.trans hml.symm) dX0_needCoin_12 dX0_needCoin_15 dX0_needCoin_16 dX0_needCoin_18 dX0_needCoin_21 ht (Nat.le_of_ble_eq_true rfl) (Nat.le_of_ble_eq_true rfl) (Nat.le_of_ble_eq_true rfl) (Nat.le_of_ble_eq_true rfl) hlocks
set_option maxHeartbeats 4000000 in
set_option maxRecDepth 100000 in
theorem c_X0_needSchool_x (l : Launch) (D : va_G) (κ : Nat → ClassId) (a : Nat → Nat) (v : VS) (hv : ok_v v) (hls : l.stackTraces = false) (x : Int32) (hx0 : ix_ x (vs_n v) = false) : Tx l yX0_needSchool cX0_needSchool 2 none 6 82 (Pt_ D (kt_ κ) (xw κ a v) [.ref (a 0), .int (x)]) "java/lang/IndexOutOfBoundsException" := by
  refine tx_intro (own := RX0) (by decide +kernel) rfl (Nat.le_of_ble_eq_true rfl) ?_
  intro p e s m args below meth c ls hx hb hml hown hts hK hP hT ht hlocks hl
  have hl : lv_has ls 2 [(0, .ref (a 0)), (1, .int (x))] := hl
  obtain ⟨hv1, hv2, hv3, hv4, hv5, hv6⟩ := id hv
  refine lv_iload_n hx hb dX0_needSchool_0 rfl (lv_at hl 1 rfl) ?_
  refine lv_if_lt (tgt := 12) hx hb dX0_needSchool_1 (by decide) (fun c_1 => ?_) (fun c_1 => ?_)
  · exact tx_throw hx hb hls hown hts hT tg0_IOB q_cl_X0_164 q_ie_IOB (show ((169 : Nat), "there is no such school") ∈ lw_strs by decide) tg1_IOB tg2_IOB tg3_IOB (hl.1.trans hml.symm) dX0_needSchool_12 dX0_needSchool_15 dX0_needSchool_16 dX0_needSchool_18 dX0_needSchool_21 ht (Nat.le_of_ble_eq_true rfl) (Nat.le_of_ble_eq_true rfl) (Nat.le_of_ble_eq_true rfl) (Nat.le_of_ble_eq_true rfl) hlocks
  · refine lv_iload_n hx hb dX0_needSchool_4 rfl (lv_at hl 1 rfl) ?_
    refine lv_aload_n hx hb dX0_needSchool_5 rfl (lv_at hl 0 rfl) ?_
    refine va_get (D := D) (ci := 0) (v := .int (nI (vs_n v))) (C := RX0) (T := TX0) (N := 7) hx hb hts i_X0 hown hK hP 0 rfl rfl 5 (by decide) (hts _ q_f_X0_29) (fun _ h9 => h9) rfl dX0_needSchool_6 ?_
    refine lv_icmp_lt (tgt := 22) hx hb dX0_needSchool_9 (by decide) (fun z => absurd z (ix_no hx0 c_1 (by omega))) (fun c_9 => ?_)
    exact tx_throw hx hb hls hown hts hT tg0_IOB q_cl_X0_164 q_ie_IOB (show ((169 : Nat), "there is no such school") ∈ lw_strs by decide) tg1_IOB tg2_IOB tg3_IOB (hl.1.trans hml.symm) dX0_needSchool_12 dX0_needSchool_15 dX0_needSchool_16 dX0_needSchool_18 dX0_needSchool_21 ht (Nat.le_of_ble_eq_true rfl) (Nat.le_of_ble_eq_true rfl) (Nat.le_of_ble_eq_true rfl) (Nat.le_of_ble_eq_true rfl) hlocks
set_option maxHeartbeats 4000000 in
set_option maxRecDepth 100000 in
theorem c_X0_needToss_x (l : Launch) (D : va_G) (κ : Nat → ClassId) (a : Nat → Nat) (v : VS) (hv : ok_v v) (hls : l.stackTraces = false) (x : Int32) (hx0 : ix_ x (vs_t v) = false) : Tx l yX0_needToss cX0_needToss 2 none 6 82 (Pt_ D (kt_ κ) (xw κ a v) [.ref (a 0), .int (x)]) "java/lang/IndexOutOfBoundsException" := by
  refine tx_intro (own := RX0) (by decide +kernel) rfl (Nat.le_of_ble_eq_true rfl) ?_
  intro p e s m args below meth c ls hx hb hml hown hts hK hP hT ht hlocks hl
  have hl : lv_has ls 2 [(0, .ref (a 0)), (1, .int (x))] := hl
  obtain ⟨hv1, hv2, hv3, hv4, hv5, hv6⟩ := id hv
  refine lv_iload_n hx hb dX0_needToss_0 rfl (lv_at hl 1 rfl) ?_
  refine lv_if_lt (tgt := 12) hx hb dX0_needToss_1 (by decide) (fun c_1 => ?_) (fun c_1 => ?_)
  · exact tx_throw hx hb hls hown hts hT tg0_IOB q_cl_X0_164 q_ie_IOB (show ((171 : Nat), "there is no such toss") ∈ lw_strs by decide) tg1_IOB tg2_IOB tg3_IOB (hl.1.trans hml.symm) dX0_needToss_12 dX0_needToss_15 dX0_needToss_16 dX0_needToss_18 dX0_needToss_21 ht (Nat.le_of_ble_eq_true rfl) (Nat.le_of_ble_eq_true rfl) (Nat.le_of_ble_eq_true rfl) (Nat.le_of_ble_eq_true rfl) hlocks
  · refine lv_iload_n hx hb dX0_needToss_4 rfl (lv_at hl 1 rfl) ?_
    refine lv_aload_n hx hb dX0_needToss_5 rfl (lv_at hl 0 rfl) ?_
    refine va_get (D := D) (ci := 0) (v := .int (nI (vs_t v))) (C := RX0) (T := TX0) (N := 7) hx hb hts i_X0 hown hK hP 0 rfl rfl 6 (by decide) (hts _ q_f_X0_32) (fun _ h9 => h9) rfl dX0_needToss_6 ?_
    refine lv_icmp_lt (tgt := 22) hx hb dX0_needToss_9 (by decide) (fun z => absurd z (ix_no hx0 c_1 (by omega))) (fun c_9 => ?_)
    exact tx_throw hx hb hls hown hts hT tg0_IOB q_cl_X0_164 q_ie_IOB (show ((171 : Nat), "there is no such toss") ∈ lw_strs by decide) tg1_IOB tg2_IOB tg3_IOB (hl.1.trans hml.symm) dX0_needToss_12 dX0_needToss_15 dX0_needToss_16 dX0_needToss_18 dX0_needToss_21 ht (Nat.le_of_ble_eq_true rfl) (Nat.le_of_ble_eq_true rfl) (Nat.le_of_ble_eq_true rfl) (Nat.le_of_ble_eq_true rfl) hlocks
set_option maxHeartbeats 4000000 in
set_option maxRecDepth 100000 in
theorem c_X0_needNoTosses_x (l : Launch) (D : va_G) (κ : Nat → ClassId) (a : Nat → Nat) (v : VS) (hv : ok_v v) (hls : l.stackTraces = false) (h0 : 0 < vs_t v) : Tx l yX0_needNoTosses cX0_needNoTosses 1 none 6 82 (Pt_ D (kt_ κ) (xw κ a v) [.ref (a 0)]) "java/lang/IllegalStateException" := by
  refine tx_intro (own := RX0) (by decide +kernel) rfl (Nat.le_of_ble_eq_true rfl) ?_
  intro p e s m args below meth c ls hx hb hml hown hts hK hP hT ht hlocks hl
  have hl : lv_has ls 1 [(0, .ref (a 0))] := hl
  obtain ⟨hv1, hv2, hv3, hv4, hv5, hv6⟩ := id hv
  refine lv_aload_n hx hb dX0_needNoTosses_0 rfl (lv_at hl 0 rfl) ?_
  refine va_get (D := D) (ci := 0) (v := .int (nI (vs_t v))) (C := RX0) (T := TX0) (N := 7) hx hb hts i_X0 hown hK hP 0 rfl rfl 6 (by decide) (hts _ q_f_X0_32) (fun _ h9 => h9) rfl dX0_needNoTosses_1 ?_
  refine nv_if_le (tgt := 17) hx hb dX0_needNoTosses_4 (by decide) (by omega) (fun z => absurd z (by omega)) (fun c_4 => ?_)
  exact tx_throw hx hb hls hown hts hT tg0_ISE q_cl_X0_42 q_ie_ISE (show ((173 : Nat), "there are tosses") ∈ lw_strs by decide) tg1_ISE tg2_ISE tg3_ISE (hl.1.trans hml.symm) dX0_needNoTosses_7 dX0_needNoTosses_10 dX0_needNoTosses_11 dX0_needNoTosses_13 dX0_needNoTosses_16 ht (Nat.le_of_ble_eq_true rfl) (Nat.le_of_ble_eq_true rfl) (Nat.le_of_ble_eq_true rfl) (Nat.le_of_ble_eq_true rfl) hlocks
set_option maxHeartbeats 4000000 in
set_option maxRecDepth 100000 in
theorem c_X0_needPossible_x (l : Launch) (D : va_G) (κ : Nat → ClassId) (a : Nat → Nat) (v : VS) (hv : ok_v v) (hls : l.stackTraces = false) (h_ : Bool) (hp0 : ch_ v h_ (hh_ v) (tt_ v) = 0) : Tx l yX0_needPossible cX0_needPossible 2 none 6 82 (Pt_ D (kt_ κ) (xw κ a v) [.ref (a 0), .int (bI (h_))]) "java/lang/IllegalStateException" := by
  refine tx_intro (own := RX0) (by decide +kernel) rfl (Nat.le_of_ble_eq_true rfl) ?_
  intro p e s m args below meth c ls hx hb hml hown hts hK hP hT ht hlocks hl
  have hl : lv_has ls 2 [(0, .ref (a 0)), (1, .int (bI (h_)))] := hl
  obtain ⟨hv1, hv2, hv3, hv4, hv5, hv6⟩ := id hv
  have hq1 := hh_le v
  have hq2 := hh_tt v
  have hb9 := ch_b hv h_ (a := hh_ v) (b := tt_ v) (by omega)
  refine lv_aload_n hx hb dX0_needPossible_0 rfl (lv_at hl 0 rfl) ?_
  refine lv_iload_n hx hb dX0_needPossible_1 rfl (lv_at hl 1 rfl) ?_
  refine lv_aload_n hx hb dX0_needPossible_2 rfl (lv_at hl 0 rfl) ?_
  refine rd_V (rest := [.int (bI (h_)), .ref (a 0)]) ⟨hx, hb, hml, hown, hts⟩ (c_X0_headsNow l D κ a v hv) g_X0_69 n_X0_headsNow ⟨Nat.le_of_ble_eq_true rfl, Nat.le_of_ble_eq_true rfl⟩ hK hP rfl rfl rfl hl.1 rfl (Nat.le_of_ble_eq_true rfl) dX0_needPossible_3 ⟨Nat.zero_le _, Nat.zero_le _⟩ ?_
  refine lv_aload_n hx hb dX0_needPossible_6 rfl (lv_at hl 0 rfl) ?_
  refine rd_V (rest := [.int (nI (hh_ v)), .int (bI (h_)), .ref (a 0)]) ⟨hx, hb, hml, hown, hts⟩ (c_X0_tailsNow l D κ a v hv) g_X0_73 n_X0_tailsNow ⟨Nat.le_of_ble_eq_true rfl, Nat.le_of_ble_eq_true rfl⟩ hK hP rfl rfl rfl hl.1 rfl (Nat.le_of_ble_eq_true rfl) dX0_needPossible_7 ⟨Nat.zero_le _, Nat.zero_le _⟩ ?_
  refine rd_V (rest := []) ⟨hx, hb, hml, hown, hts⟩ (c_X0_chance l D κ a v hv (h_) (hh_ v) (tt_ v) (by omega) (by omega)) g_X0_120 n_X0_chance ⟨Nat.le_of_ble_eq_true rfl, Nat.le_of_ble_eq_true rfl⟩ hK hP rfl rfl rfl hl.1 rfl (Nat.le_of_ble_eq_true rfl) dX0_needPossible_10 ⟨Nat.zero_le _, Nat.zero_le _⟩ ?_
  refine lv_lconst (v := lN (0)) hx hb dX0_needPossible_13 (by decide) ?_
  refine nv_lc_ne (tgt := 28) hx hb dX0_needPossible_14 dX0_needPossible_15 (by decide) (by omega) (by omega) (fun z => absurd z (by omega)) (fun c_15 => ?_)
  exact tx_throw hx hb hls hown hts hT tg0_ISE q_cl_X0_42 q_ie_ISE (show ((175 : Nat), "such a toss cannot be") ∈ lw_strs by decide) tg1_ISE tg2_ISE tg3_ISE (hl.1.trans hml.symm) dX0_needPossible_18 dX0_needPossible_21 dX0_needPossible_22 dX0_needPossible_24 dX0_needPossible_27 ht (Nat.le_of_ble_eq_true rfl) (Nat.le_of_ble_eq_true rfl) (Nat.le_of_ble_eq_true rfl) (Nat.le_of_ble_eq_true rfl) hlocks
set_option maxHeartbeats 4000000 in
set_option maxRecDepth 100000 in
theorem c_X0_isHeads_x (l : Launch) (D : va_G) (κ : Nat → ClassId) (a : Nat → Nat) (v : VS) (hv : ok_v v) (hls : l.stackTraces = false) (x : Int32) (hx0 : ix_ x (vs_t v) = false) : Tx l yX0_isHeads cX0_isHeads 2 (some .boolean) 7 103 (Pt_ D (kt_ κ) (xw κ a v) [.ref (a 0), .int (x)]) "java/lang/IndexOutOfBoundsException" := by
  refine tx_intro (own := RX0) (by decide +kernel) rfl (Nat.le_of_ble_eq_true rfl) ?_
  intro p e s m args below meth c ls hx hb hml hown hts hK hP hT ht hlocks hl
  have hl : lv_has ls 2 [(0, .ref (a 0)), (1, .int (x))] := hl
  obtain ⟨hv1, hv2, hv3, hv4, hv5, hv6⟩ := id hv
  refine lv_aload_n hx hb dX0_isHeads_0 rfl (lv_at hl 0 rfl) ?_
  refine lv_iload_n hx hb dX0_isHeads_1 rfl (lv_at hl 1 rfl) ?_
  exact tx_V (rest := []) ⟨hx, hb, hml, hown, hts⟩ (c_X0_needToss_x l D κ a v hv hls (x) (hx0)) g_X0_82 n_X0_needToss ⟨Nat.le_of_ble_eq_true rfl, Nat.le_of_ble_eq_true rfl⟩ hK hP hT rfl rfl rfl hl.1 rfl (Nat.le_of_ble_eq_true rfl) dX0_isHeads_2 ⟨Nat.le_of_ble_eq_true rfl, Nat.le_of_ble_eq_true rfl⟩ ht hlocks
set_option maxHeartbeats 4000000 in
set_option maxRecDepth 100000 in
theorem c_X0_tenthsOf_x (l : Launch) (D : va_G) (κ : Nat → ClassId) (a : Nat → Nat) (v : VS) (hv : ok_v v) (hls : l.stackTraces = false) (x : Int32) (hx0 : ix_ x (vs_c v) = false) : Tx l yX0_tenthsOf cX0_tenthsOf 2 (some .int) 7 103 (Pt_ D (kt_ κ) (xw κ a v) [.ref (a 0), .int (x)]) "java/lang/IndexOutOfBoundsException" := by
  refine tx_intro (own := RX0) (by decide +kernel) rfl (Nat.le_of_ble_eq_true rfl) ?_
  intro p e s m args below meth c ls hx hb hml hown hts hK hP hT ht hlocks hl
  have hl : lv_has ls 2 [(0, .ref (a 0)), (1, .int (x))] := hl
  obtain ⟨hv1, hv2, hv3, hv4, hv5, hv6⟩ := id hv
  refine lv_aload_n hx hb dX0_tenthsOf_0 rfl (lv_at hl 0 rfl) ?_
  refine lv_iload_n hx hb dX0_tenthsOf_1 rfl (lv_at hl 1 rfl) ?_
  exact tx_V (rest := []) ⟨hx, hb, hml, hown, hts⟩ (c_X0_needCoin_x l D κ a v hv hls (x) (hx0)) g_X0_58 n_X0_needCoin ⟨Nat.le_of_ble_eq_true rfl, Nat.le_of_ble_eq_true rfl⟩ hK hP hT rfl rfl rfl hl.1 rfl (Nat.le_of_ble_eq_true rfl) dX0_tenthsOf_2 ⟨Nat.le_of_ble_eq_true rfl, Nat.le_of_ble_eq_true rfl⟩ ht hlocks
set_option maxHeartbeats 4000000 in
set_option maxRecDepth 100000 in
theorem c_X0_oddsOf_x (l : Launch) (D : va_G) (κ : Nat → ClassId) (a : Nat → Nat) (v : VS) (hv : ok_v v) (hls : l.stackTraces = false) (x : Int32) (hx0 : ix_ x (vs_n v) = false) : Tx l yX0_oddsOf cX0_oddsOf 2 (some .int) 7 103 (Pt_ D (kt_ κ) (xw κ a v) [.ref (a 0), .int (x)]) "java/lang/IndexOutOfBoundsException" := by
  refine tx_intro (own := RX0) (by decide +kernel) rfl (Nat.le_of_ble_eq_true rfl) ?_
  intro p e s m args below meth c ls hx hb hml hown hts hK hP hT ht hlocks hl
  have hl : lv_has ls 2 [(0, .ref (a 0)), (1, .int (x))] := hl
  obtain ⟨hv1, hv2, hv3, hv4, hv5, hv6⟩ := id hv
  refine lv_aload_n hx hb dX0_oddsOf_0 rfl (lv_at hl 0 rfl) ?_
  refine lv_iload_n hx hb dX0_oddsOf_1 rfl (lv_at hl 1 rfl) ?_
  exact tx_V (rest := []) ⟨hx, hb, hml, hown, hts⟩ (c_X0_needSchool_x l D κ a v hv hls (x) (hx0)) g_X0_54 n_X0_needSchool ⟨Nat.le_of_ble_eq_true rfl, Nat.le_of_ble_eq_true rfl⟩ hK hP hT rfl rfl rfl hl.1 rfl (Nat.le_of_ble_eq_true rfl) dX0_oddsOf_2 ⟨Nat.le_of_ble_eq_true rfl, Nat.le_of_ble_eq_true rfl⟩ ht hlocks
set_option maxHeartbeats 4000000 in
set_option maxRecDepth 100000 in
theorem c_X0_shareOf_x1 (l : Launch) (D : va_G) (κ : Nat → ClassId) (a : Nat → Nat) (v : VS) (hv : ok_v v) (hls : l.stackTraces = false) (x : Int32) (y : Int32) (hx0 : ix_ x (vs_n v) = false) : Tx l yX0_shareOf cX0_shareOf 3 (some .int) 7 103 (Pt_ D (kt_ κ) (xw κ a v) [.ref (a 0), .int (x), .int (y)]) "java/lang/IndexOutOfBoundsException" := by
  refine tx_intro (own := RX0) (by decide +kernel) rfl (Nat.le_of_ble_eq_true rfl) ?_
  intro p e s m args below meth c ls hx hb hml hown hts hK hP hT ht hlocks hl
  have hl : lv_has ls 3 [(0, .ref (a 0)), (1, .int (x)), (2, .int (y))] := hl
  obtain ⟨hv1, hv2, hv3, hv4, hv5, hv6⟩ := id hv
  refine lv_aload_n hx hb dX0_shareOf_0 rfl (lv_at hl 0 rfl) ?_
  refine lv_iload_n hx hb dX0_shareOf_1 rfl (lv_at hl 1 rfl) ?_
  exact tx_V (rest := []) ⟨hx, hb, hml, hown, hts⟩ (c_X0_needSchool_x l D κ a v hv hls (x) (hx0)) g_X0_54 n_X0_needSchool ⟨Nat.le_of_ble_eq_true rfl, Nat.le_of_ble_eq_true rfl⟩ hK hP hT rfl rfl rfl hl.1 rfl (Nat.le_of_ble_eq_true rfl) dX0_shareOf_2 ⟨Nat.le_of_ble_eq_true rfl, Nat.le_of_ble_eq_true rfl⟩ ht hlocks
set_option maxHeartbeats 4000000 in
set_option maxRecDepth 100000 in
theorem c_X0_shareOf_x2 (l : Launch) (D : va_G) (κ : Nat → ClassId) (a : Nat → Nat) (v : VS) (hv : ok_v v) (hls : l.stackTraces = false) (s_ : Nat) (y : Int32) (hs : s_ < vs_n v) (hx0 : ix_ y (vs_c v) = false) : Tx l yX0_shareOf cX0_shareOf 3 (some .int) 7 103 (Pt_ D (kt_ κ) (xw κ a v) [.ref (a 0), .int (nI (s_)), .int (y)]) "java/lang/IndexOutOfBoundsException" := by
  refine tx_intro (own := RX0) (by decide +kernel) rfl (Nat.le_of_ble_eq_true rfl) ?_
  intro p e s m args below meth c ls hx hb hml hown hts hK hP hT ht hlocks hl
  have hl : lv_has ls 3 [(0, .ref (a 0)), (1, .int (nI (s_))), (2, .int (y))] := hl
  obtain ⟨hv1, hv2, hv3, hv4, hv5, hv6⟩ := id hv
  refine lv_aload_n hx hb dX0_shareOf_0 rfl (lv_at hl 0 rfl) ?_
  refine lv_iload_n hx hb dX0_shareOf_1 rfl (lv_at hl 1 rfl) ?_
  refine rd_VN (rest := []) ⟨hx, hb, hml, hown, hts⟩ (c_X0_needSchool l D κ a v hv (s_) (by omega)) g_X0_54 n_X0_needSchool ⟨Nat.le_of_ble_eq_true rfl, Nat.le_of_ble_eq_true rfl⟩ hK hP rfl rfl rfl hl.1 rfl (Nat.le_of_ble_eq_true rfl) dX0_shareOf_2 ⟨Nat.zero_le _, Nat.zero_le _⟩ ?_
  refine lv_aload_n hx hb dX0_shareOf_5 rfl (lv_at hl 0 rfl) ?_
  refine lv_iload_n hx hb dX0_shareOf_6 rfl (lv_at hl 2 rfl) ?_
  exact tx_V (rest := []) ⟨hx, hb, hml, hown, hts⟩ (c_X0_needCoin_x l D κ a v hv hls (y) (hx0)) g_X0_58 n_X0_needCoin ⟨Nat.le_of_ble_eq_true rfl, Nat.le_of_ble_eq_true rfl⟩ hK hP hT rfl rfl rfl hl.1 rfl (Nat.le_of_ble_eq_true rfl) dX0_shareOf_7 ⟨Nat.le_of_ble_eq_true rfl, Nat.le_of_ble_eq_true rfl⟩ ht hlocks
set_option maxHeartbeats 4000000 in
set_option maxRecDepth 100000 in
theorem c_X0_weightOf_x1 (l : Launch) (D : va_G) (κ : Nat → ClassId) (a : Nat → Nat) (v : VS) (hv : ok_v v) (hls : l.stackTraces = false) (x : Int32) (y : Int32) (hx0 : ix_ x (vs_n v) = false) : Tx l yX0_weightOf cX0_weightOf 3 (some .long) 7 103 (Pt_ D (kt_ κ) (xw κ a v) [.ref (a 0), .int (x), .int (y)]) "java/lang/IndexOutOfBoundsException" := by
  refine tx_intro (own := RX0) (by decide +kernel) rfl (Nat.le_of_ble_eq_true rfl) ?_
  intro p e s m args below meth c ls hx hb hml hown hts hK hP hT ht hlocks hl
  have hl : lv_has ls 3 [(0, .ref (a 0)), (1, .int (x)), (2, .int (y))] := hl
  obtain ⟨hv1, hv2, hv3, hv4, hv5, hv6⟩ := id hv
  refine lv_aload_n hx hb dX0_weightOf_0 rfl (lv_at hl 0 rfl) ?_
  refine lv_iload_n hx hb dX0_weightOf_1 rfl (lv_at hl 1 rfl) ?_
  exact tx_V (rest := []) ⟨hx, hb, hml, hown, hts⟩ (c_X0_needSchool_x l D κ a v hv hls (x) (hx0)) g_X0_54 n_X0_needSchool ⟨Nat.le_of_ble_eq_true rfl, Nat.le_of_ble_eq_true rfl⟩ hK hP hT rfl rfl rfl hl.1 rfl (Nat.le_of_ble_eq_true rfl) dX0_weightOf_2 ⟨Nat.le_of_ble_eq_true rfl, Nat.le_of_ble_eq_true rfl⟩ ht hlocks
set_option maxHeartbeats 4000000 in
set_option maxRecDepth 100000 in
theorem c_X0_weightOf_x2 (l : Launch) (D : va_G) (κ : Nat → ClassId) (a : Nat → Nat) (v : VS) (hv : ok_v v) (hls : l.stackTraces = false) (s_ : Nat) (y : Int32) (hs : s_ < vs_n v) (hx0 : ix_ y (vs_c v) = false) : Tx l yX0_weightOf cX0_weightOf 3 (some .long) 7 103 (Pt_ D (kt_ κ) (xw κ a v) [.ref (a 0), .int (nI (s_)), .int (y)]) "java/lang/IndexOutOfBoundsException" := by
  refine tx_intro (own := RX0) (by decide +kernel) rfl (Nat.le_of_ble_eq_true rfl) ?_
  intro p e s m args below meth c ls hx hb hml hown hts hK hP hT ht hlocks hl
  have hl : lv_has ls 3 [(0, .ref (a 0)), (1, .int (nI (s_))), (2, .int (y))] := hl
  obtain ⟨hv1, hv2, hv3, hv4, hv5, hv6⟩ := id hv
  refine lv_aload_n hx hb dX0_weightOf_0 rfl (lv_at hl 0 rfl) ?_
  refine lv_iload_n hx hb dX0_weightOf_1 rfl (lv_at hl 1 rfl) ?_
  refine rd_VN (rest := []) ⟨hx, hb, hml, hown, hts⟩ (c_X0_needSchool l D κ a v hv (s_) (by omega)) g_X0_54 n_X0_needSchool ⟨Nat.le_of_ble_eq_true rfl, Nat.le_of_ble_eq_true rfl⟩ hK hP rfl rfl rfl hl.1 rfl (Nat.le_of_ble_eq_true rfl) dX0_weightOf_2 ⟨Nat.zero_le _, Nat.zero_le _⟩ ?_
  refine lv_aload_n hx hb dX0_weightOf_5 rfl (lv_at hl 0 rfl) ?_
  refine lv_iload_n hx hb dX0_weightOf_6 rfl (lv_at hl 2 rfl) ?_
  exact tx_V (rest := []) ⟨hx, hb, hml, hown, hts⟩ (c_X0_needCoin_x l D κ a v hv hls (y) (hx0)) g_X0_58 n_X0_needCoin ⟨Nat.le_of_ble_eq_true rfl, Nat.le_of_ble_eq_true rfl⟩ hK hP hT rfl rfl rfl hl.1 rfl (Nat.le_of_ble_eq_true rfl) dX0_weightOf_7 ⟨Nat.le_of_ble_eq_true rfl, Nat.le_of_ble_eq_true rfl⟩ ht hlocks
set_option maxHeartbeats 4000000 in
set_option maxRecDepth 100000 in
theorem c_X0_coinWeight_x (l : Launch) (D : va_G) (κ : Nat → ClassId) (a : Nat → Nat) (v : VS) (hv : ok_v v) (hls : l.stackTraces = false) (x : Int32) (hx0 : ix_ x (vs_c v) = false) : Tx l yX0_coinWeight cX0_coinWeight 2 (some .long) 7 103 (Pt_ D (kt_ κ) (xw κ a v) [.ref (a 0), .int (x)]) "java/lang/IndexOutOfBoundsException" := by
  refine tx_intro (own := RX0) (by decide +kernel) rfl (Nat.le_of_ble_eq_true rfl) ?_
  intro p e s m args below meth c ls hx hb hml hown hts hK hP hT ht hlocks hl
  have hl : lv_has ls 2 [(0, .ref (a 0)), (1, .int (x))] := hl
  obtain ⟨hv1, hv2, hv3, hv4, hv5, hv6⟩ := id hv
  refine lv_aload_n hx hb dX0_coinWeight_0 rfl (lv_at hl 0 rfl) ?_
  refine lv_iload_n hx hb dX0_coinWeight_1 rfl (lv_at hl 1 rfl) ?_
  exact tx_V (rest := []) ⟨hx, hb, hml, hown, hts⟩ (c_X0_needCoin_x l D κ a v hv hls (x) (hx0)) g_X0_58 n_X0_needCoin ⟨Nat.le_of_ble_eq_true rfl, Nat.le_of_ble_eq_true rfl⟩ hK hP hT rfl rfl rfl hl.1 rfl (Nat.le_of_ble_eq_true rfl) dX0_coinWeight_2 ⟨Nat.le_of_ble_eq_true rfl, Nat.le_of_ble_eq_true rfl⟩ ht hlocks
set_option maxHeartbeats 4000000 in
set_option maxRecDepth 100000 in
theorem c_X0_schoolWeight_x (l : Launch) (D : va_G) (κ : Nat → ClassId) (a : Nat → Nat) (v : VS) (hv : ok_v v) (hls : l.stackTraces = false) (x : Int32) (hx0 : ix_ x (vs_n v) = false) : Tx l yX0_schoolWeight cX0_schoolWeight 2 (some .long) 7 103 (Pt_ D (kt_ κ) (xw κ a v) [.ref (a 0), .int (x)]) "java/lang/IndexOutOfBoundsException" := by
  refine tx_intro (own := RX0) (by decide +kernel) rfl (Nat.le_of_ble_eq_true rfl) ?_
  intro p e s m args below meth c ls hx hb hml hown hts hK hP hT ht hlocks hl
  have hl : lv_has ls 2 [(0, .ref (a 0)), (1, .int (x))] := hl
  obtain ⟨hv1, hv2, hv3, hv4, hv5, hv6⟩ := id hv
  refine lv_aload_n hx hb dX0_schoolWeight_0 rfl (lv_at hl 0 rfl) ?_
  refine lv_iload_n hx hb dX0_schoolWeight_1 rfl (lv_at hl 1 rfl) ?_
  exact tx_V (rest := []) ⟨hx, hb, hml, hown, hts⟩ (c_X0_needSchool_x l D κ a v hv hls (x) (hx0)) g_X0_54 n_X0_needSchool ⟨Nat.le_of_ble_eq_true rfl, Nat.le_of_ble_eq_true rfl⟩ hK hP hT rfl rfl rfl hl.1 rfl (Nat.le_of_ble_eq_true rfl) dX0_schoolWeight_2 ⟨Nat.le_of_ble_eq_true rfl, Nat.le_of_ble_eq_true rfl⟩ ht hlocks
set_option maxHeartbeats 4000000 in
set_option maxRecDepth 100000 in
theorem c_X0_isRuledOut_x (l : Launch) (D : va_G) (κ : Nat → ClassId) (a : Nat → Nat) (v : VS) (hv : ok_v v) (hls : l.stackTraces = false) (x : Int32) (hx0 : ix_ x (vs_c v) = false) : Tx l yX0_isRuledOut cX0_isRuledOut 2 (some .boolean) 7 103 (Pt_ D (kt_ κ) (xw κ a v) [.ref (a 0), .int (x)]) "java/lang/IndexOutOfBoundsException" := by
  refine tx_intro (own := RX0) (by decide +kernel) rfl (Nat.le_of_ble_eq_true rfl) ?_
  intro p e s m args below meth c ls hx hb hml hown hts hK hP hT ht hlocks hl
  have hl : lv_has ls 2 [(0, .ref (a 0)), (1, .int (x))] := hl
  obtain ⟨hv1, hv2, hv3, hv4, hv5, hv6⟩ := id hv
  refine lv_aload_n hx hb dX0_isRuledOut_0 rfl (lv_at hl 0 rfl) ?_
  refine lv_iload_n hx hb dX0_isRuledOut_1 rfl (lv_at hl 1 rfl) ?_
  exact tx_V (rest := []) ⟨hx, hb, hml, hown, hts⟩ (c_X0_needCoin_x l D κ a v hv hls (x) (hx0)) g_X0_58 n_X0_needCoin ⟨Nat.le_of_ble_eq_true rfl, Nat.le_of_ble_eq_true rfl⟩ hK hP hT rfl rfl rfl hl.1 rfl (Nat.le_of_ble_eq_true rfl) dX0_isRuledOut_2 ⟨Nat.le_of_ble_eq_true rfl, Nat.le_of_ble_eq_true rfl⟩ ht hlocks
set_option maxHeartbeats 4000000 in
set_option maxRecDepth 100000 in
theorem c_X0_coinPercent_x1 (l : Launch) (D : va_G) (κ : Nat → ClassId) (a : Nat → Nat) (v : VS) (hv : ok_v v) (hls : l.stackTraces = false) (x : Int32) (hx0 : ix_ x (vs_c v) = false) : Tx l yX0_coinPercent cX0_coinPercent 2 (some .int) 7 103 (Pt_ D (kt_ κ) (xw κ a v) [.ref (a 0), .int (x)]) "java/lang/IndexOutOfBoundsException" := by
  refine tx_intro (own := RX0) (by decide +kernel) rfl (Nat.le_of_ble_eq_true rfl) ?_
  intro p e s m args below meth c ls hx hb hml hown hts hK hP hT ht hlocks hl
  have hl : lv_has ls 2 [(0, .ref (a 0)), (1, .int (x))] := hl
  obtain ⟨hv1, hv2, hv3, hv4, hv5, hv6⟩ := id hv
  refine lv_aload_n hx hb dX0_coinPercent_0 rfl (lv_at hl 0 rfl) ?_
  refine lv_iload_n hx hb dX0_coinPercent_1 rfl (lv_at hl 1 rfl) ?_
  exact tx_V (rest := []) ⟨hx, hb, hml, hown, hts⟩ (c_X0_needCoin_x l D κ a v hv hls (x) (hx0)) g_X0_58 n_X0_needCoin ⟨Nat.le_of_ble_eq_true rfl, Nat.le_of_ble_eq_true rfl⟩ hK hP hT rfl rfl rfl hl.1 rfl (Nat.le_of_ble_eq_true rfl) dX0_coinPercent_2 ⟨Nat.le_of_ble_eq_true rfl, Nat.le_of_ble_eq_true rfl⟩ ht hlocks
set_option maxHeartbeats 4000000 in
set_option maxRecDepth 100000 in
theorem c_X0_coinPercent_x2 (l : Launch) (D : va_G) (κ : Nat → ClassId) (a : Nat → Nat) (v : VS) (hv : ok_v v) (hls : l.stackTraces = false) (c_ : Nat) (hc : c_ < vs_c v) (hw0 : wl_ v (hh_ v) (tt_ v) = 0) : Tx l yX0_coinPercent cX0_coinPercent 2 (some .int) 7 105 (Pt_ D (kt_ κ) (xw κ a v) [.ref (a 0), .int (nI (c_))]) "java/lang/IllegalStateException" := by
  refine tx_intro (own := RX0) (by decide +kernel) rfl (Nat.le_of_ble_eq_true rfl) ?_
  intro p e s m args below meth c ls hx hb hml hown hts hK hP hT ht hlocks hl
  have hl : lv_has ls 2 [(0, .ref (a 0)), (1, .int (nI (c_)))] := hl
  obtain ⟨hv1, hv2, hv3, hv4, hv5, hv6⟩ := id hv
  have hq1 := hh_le v
  have hq2 := hh_tt v
  refine lv_aload_n hx hb dX0_coinPercent_0 rfl (lv_at hl 0 rfl) ?_
  refine lv_iload_n hx hb dX0_coinPercent_1 rfl (lv_at hl 1 rfl) ?_
  refine rd_VN (rest := []) ⟨hx, hb, hml, hown, hts⟩ (c_X0_needCoin l D κ a v hv (c_) (by omega)) g_X0_58 n_X0_needCoin ⟨Nat.le_of_ble_eq_true rfl, Nat.le_of_ble_eq_true rfl⟩ hK hP rfl rfl rfl hl.1 rfl (Nat.le_of_ble_eq_true rfl) dX0_coinPercent_2 ⟨Nat.zero_le _, Nat.zero_le _⟩ ?_
  refine lv_aload_n hx hb dX0_coinPercent_5 rfl (lv_at hl 0 rfl) ?_
  refine lv_iload_n hx hb dX0_coinPercent_6 rfl (lv_at hl 1 rfl) ?_
  refine lv_aload_n hx hb dX0_coinPercent_7 rfl (lv_at hl 0 rfl) ?_
  refine rd_V (rest := [.int (nI (c_)), .ref (a 0)]) ⟨hx, hb, hml, hown, hts⟩ (c_X0_headsNow l D κ a v hv) g_X0_69 n_X0_headsNow ⟨Nat.le_of_ble_eq_true rfl, Nat.le_of_ble_eq_true rfl⟩ hK hP rfl rfl rfl hl.1 rfl (Nat.le_of_ble_eq_true rfl) dX0_coinPercent_8 ⟨Nat.zero_le _, Nat.zero_le _⟩ ?_
  refine lv_aload_n hx hb dX0_coinPercent_11 rfl (lv_at hl 0 rfl) ?_
  refine rd_V (rest := [.int (nI (hh_ v)), .int (nI (c_)), .ref (a 0)]) ⟨hx, hb, hml, hown, hts⟩ (c_X0_tailsNow l D κ a v hv) g_X0_73 n_X0_tailsNow ⟨Nat.le_of_ble_eq_true rfl, Nat.le_of_ble_eq_true rfl⟩ hK hP rfl rfl rfl hl.1 rfl (Nat.le_of_ble_eq_true rfl) dX0_coinPercent_12 ⟨Nat.zero_le _, Nat.zero_le _⟩ ?_
  refine rd_V (rest := []) ⟨hx, hb, hml, hown, hts⟩ (c_X0_coinWeightAt l D κ a v hv (c_) (hh_ v) (tt_ v) (by omega) (by omega) (by omega)) g_X0_93 n_X0_coinWeightAt ⟨Nat.le_of_ble_eq_true rfl, Nat.le_of_ble_eq_true rfl⟩ hK hP rfl rfl rfl hl.1 rfl (Nat.le_of_ble_eq_true rfl) dX0_coinPercent_15 ⟨Nat.zero_le _, Nat.zero_le _⟩ ?_
  refine lv_aload_n hx hb dX0_coinPercent_18 rfl (lv_at hl 0 rfl) ?_
  refine rd_V (rest := [.long (lN (wt_ v c_ (hh_ v) (tt_ v)))]) ⟨hx, hb, hml, hown, hts⟩ (c_X0_wholeNow l D κ a v hv) g_X0_100 n_X0_wholeNow ⟨Nat.le_of_ble_eq_true rfl, Nat.le_of_ble_eq_true rfl⟩ hK hP rfl rfl rfl hl.1 rfl (Nat.le_of_ble_eq_true rfl) dX0_coinPercent_19 ⟨Nat.zero_le _, Nat.zero_le _⟩ ?_
  exact tx_S (rest := []) ⟨hx, hb, hml, hown, hts⟩ (c_X0_percent_x l hls (lN (wt_ v c_ (hh_ v) (tt_ v))) (wl_ v (hh_ v) (tt_ v)) (hw0)) g_X0_104 n_X0_percent ⟨Nat.le_of_ble_eq_true rfl, Nat.le_of_ble_eq_true rfl⟩ hT rfl hl.1 rfl (Nat.le_of_ble_eq_true rfl) dX0_coinPercent_22 ⟨Nat.le_of_ble_eq_true rfl, Nat.le_of_ble_eq_true rfl⟩ ht hlocks
set_option maxHeartbeats 4000000 in
set_option maxRecDepth 100000 in
theorem c_X0_schoolPercent_x1 (l : Launch) (D : va_G) (κ : Nat → ClassId) (a : Nat → Nat) (v : VS) (hv : ok_v v) (hls : l.stackTraces = false) (x : Int32) (hx0 : ix_ x (vs_n v) = false) : Tx l yX0_schoolPercent cX0_schoolPercent 2 (some .int) 7 103 (Pt_ D (kt_ κ) (xw κ a v) [.ref (a 0), .int (x)]) "java/lang/IndexOutOfBoundsException" := by
  refine tx_intro (own := RX0) (by decide +kernel) rfl (Nat.le_of_ble_eq_true rfl) ?_
  intro p e s m args below meth c ls hx hb hml hown hts hK hP hT ht hlocks hl
  have hl : lv_has ls 2 [(0, .ref (a 0)), (1, .int (x))] := hl
  obtain ⟨hv1, hv2, hv3, hv4, hv5, hv6⟩ := id hv
  refine lv_aload_n hx hb dX0_schoolPercent_0 rfl (lv_at hl 0 rfl) ?_
  refine lv_iload_n hx hb dX0_schoolPercent_1 rfl (lv_at hl 1 rfl) ?_
  exact tx_V (rest := []) ⟨hx, hb, hml, hown, hts⟩ (c_X0_needSchool_x l D κ a v hv hls (x) (hx0)) g_X0_54 n_X0_needSchool ⟨Nat.le_of_ble_eq_true rfl, Nat.le_of_ble_eq_true rfl⟩ hK hP hT rfl rfl rfl hl.1 rfl (Nat.le_of_ble_eq_true rfl) dX0_schoolPercent_2 ⟨Nat.le_of_ble_eq_true rfl, Nat.le_of_ble_eq_true rfl⟩ ht hlocks
set_option maxHeartbeats 4000000 in
set_option maxRecDepth 100000 in
theorem c_X0_schoolPercent_x2 (l : Launch) (D : va_G) (κ : Nat → ClassId) (a : Nat → Nat) (v : VS) (hv : ok_v v) (hls : l.stackTraces = false) (s_ : Nat) (hs : s_ < vs_n v) (hw0 : wl_ v (hh_ v) (tt_ v) = 0) : Tx l yX0_schoolPercent cX0_schoolPercent 2 (some .int) 7 105 (Pt_ D (kt_ κ) (xw κ a v) [.ref (a 0), .int (nI (s_))]) "java/lang/IllegalStateException" := by
  refine tx_intro (own := RX0) (by decide +kernel) rfl (Nat.le_of_ble_eq_true rfl) ?_
  intro p e s m args below meth c ls hx hb hml hown hts hK hP hT ht hlocks hl
  have hl : lv_has ls 2 [(0, .ref (a 0)), (1, .int (nI (s_)))] := hl
  obtain ⟨hv1, hv2, hv3, hv4, hv5, hv6⟩ := id hv
  refine lv_aload_n hx hb dX0_schoolPercent_0 rfl (lv_at hl 0 rfl) ?_
  refine lv_iload_n hx hb dX0_schoolPercent_1 rfl (lv_at hl 1 rfl) ?_
  refine rd_VN (rest := []) ⟨hx, hb, hml, hown, hts⟩ (c_X0_needSchool l D κ a v hv (s_) (by omega)) g_X0_54 n_X0_needSchool ⟨Nat.le_of_ble_eq_true rfl, Nat.le_of_ble_eq_true rfl⟩ hK hP rfl rfl rfl hl.1 rfl (Nat.le_of_ble_eq_true rfl) dX0_schoolPercent_2 ⟨Nat.zero_le _, Nat.zero_le _⟩ ?_
  refine lv_aload_n hx hb dX0_schoolPercent_5 rfl (lv_at hl 0 rfl) ?_
  refine lv_iload_n hx hb dX0_schoolPercent_6 rfl (lv_at hl 1 rfl) ?_
  refine rd_V (rest := []) ⟨hx, hb, hml, hown, hts⟩ (c_X0_schoolWeightNow l D κ a v hv (s_) (by omega)) g_X0_96 n_X0_schoolWeightNow ⟨Nat.le_of_ble_eq_true rfl, Nat.le_of_ble_eq_true rfl⟩ hK hP rfl rfl rfl hl.1 rfl (Nat.le_of_ble_eq_true rfl) dX0_schoolPercent_7 ⟨Nat.zero_le _, Nat.zero_le _⟩ ?_
  refine lv_aload_n hx hb dX0_schoolPercent_10 rfl (lv_at hl 0 rfl) ?_
  refine rd_V (rest := [.long (lN (sc_ v s_ (hh_ v) (tt_ v)))]) ⟨hx, hb, hml, hown, hts⟩ (c_X0_wholeNow l D κ a v hv) g_X0_100 n_X0_wholeNow ⟨Nat.le_of_ble_eq_true rfl, Nat.le_of_ble_eq_true rfl⟩ hK hP rfl rfl rfl hl.1 rfl (Nat.le_of_ble_eq_true rfl) dX0_schoolPercent_11 ⟨Nat.zero_le _, Nat.zero_le _⟩ ?_
  exact tx_S (rest := []) ⟨hx, hb, hml, hown, hts⟩ (c_X0_percent_x l hls (lN (sc_ v s_ (hh_ v) (tt_ v))) (wl_ v (hh_ v) (tt_ v)) (hw0)) g_X0_104 n_X0_percent ⟨Nat.le_of_ble_eq_true rfl, Nat.le_of_ble_eq_true rfl⟩ hT rfl hl.1 rfl (Nat.le_of_ble_eq_true rfl) dX0_schoolPercent_14 ⟨Nat.le_of_ble_eq_true rfl, Nat.le_of_ble_eq_true rfl⟩ ht hlocks
set_option maxHeartbeats 4000000 in
set_option maxRecDepth 100000 in
theorem c_X0_leadingCoin_x (l : Launch) (D : va_G) (κ : Nat → ClassId) (a : Nat → Nat) (v : VS) (hv : ok_v v) (hls : l.stackTraces = false) (hw0 : wl_ v (hh_ v) (tt_ v) = 0) : Tx l yX0_leadingCoin cX0_leadingCoin 2 (some .int) 6 82 (Pt_ D (kt_ κ) (xw κ a v) [.ref (a 0)]) "java/lang/IllegalStateException" := by
  refine tx_intro (own := RX0) (by decide +kernel) rfl (Nat.le_of_ble_eq_true rfl) ?_
  intro p e s m args below meth c ls hx hb hml hown hts hK hP hT ht hlocks hl
  have hl : lv_has ls 2 [(0, .ref (a 0))] := hl
  obtain ⟨hv1, hv2, hv3, hv4, hv5, hv6⟩ := id hv
  have hq1 := hh_le v
  have hq2 := hh_tt v
  refine lv_aload_n hx hb dX0_leadingCoin_0 rfl (lv_at hl 0 rfl) ?_
  refine lv_aload_n hx hb dX0_leadingCoin_1 rfl (lv_at hl 0 rfl) ?_
  refine rd_V (rest := [.ref (a 0)]) ⟨hx, hb, hml, hown, hts⟩ (c_X0_headsNow l D κ a v hv) g_X0_69 n_X0_headsNow ⟨Nat.le_of_ble_eq_true rfl, Nat.le_of_ble_eq_true rfl⟩ hK hP rfl rfl rfl hl.1 rfl (Nat.le_of_ble_eq_true rfl) dX0_leadingCoin_2 ⟨Nat.zero_le _, Nat.zero_le _⟩ ?_
  refine lv_aload_n hx hb dX0_leadingCoin_5 rfl (lv_at hl 0 rfl) ?_
  refine rd_V (rest := [.int (nI (hh_ v)), .ref (a 0)]) ⟨hx, hb, hml, hown, hts⟩ (c_X0_tailsNow l D κ a v hv) g_X0_73 n_X0_tailsNow ⟨Nat.le_of_ble_eq_true rfl, Nat.le_of_ble_eq_true rfl⟩ hK hP rfl rfl rfl hl.1 rfl (Nat.le_of_ble_eq_true rfl) dX0_leadingCoin_6 ⟨Nat.zero_le _, Nat.zero_le _⟩ ?_
  refine rd_V (rest := []) ⟨hx, hb, hml, hown, hts⟩ (c_X0_leaderAt l D κ a v hv (hh_ v) (tt_ v) (by omega)) g_X0_108 n_X0_leaderAt ⟨Nat.le_of_ble_eq_true rfl, Nat.le_of_ble_eq_true rfl⟩ hK hP rfl rfl rfl hl.1 rfl (Nat.le_of_ble_eq_true rfl) dX0_leadingCoin_9 ⟨Nat.zero_le _, Nat.zero_le _⟩ ?_
  refine nv_topi (show (la_ v (hh_ v) (tt_ v) : Int32) = -1 from by exact la_zero hw0) ?_
  refine lv_istore_n (lv' := [(1, .int (-1)), (0, .ref (a 0))]) hx hb dX0_leadingCoin_12 rfl hl (by decide) rfl (fun ls hl => ?_)
  refine lv_iload_n hx hb dX0_leadingCoin_13 rfl (lv_at hl 0 rfl) ?_
  refine lv_iconst (v := (-1)) hx hb dX0_leadingCoin_14 (by decide) ?_
  refine lv_icmp_ne (tgt := 28) hx hb dX0_leadingCoin_15 (by decide) (fun z => absurd z (fun q => q rfl)) (fun c_15 => ?_)
  exact tx_throw hx hb hls hown hts hT tg0_ISE q_cl_X0_42 q_ie_ISE (show ((112 : Nat), "the whole weight is 0") ∈ lw_strs by decide) tg1_ISE tg2_ISE tg3_ISE (hl.1.trans hml.symm) dX0_leadingCoin_18 dX0_leadingCoin_21 dX0_leadingCoin_22 dX0_leadingCoin_24 dX0_leadingCoin_27 ht (Nat.le_of_ble_eq_true rfl) (Nat.le_of_ble_eq_true rfl) (Nat.le_of_ble_eq_true rfl) (Nat.le_of_ble_eq_true rfl) hlocks
set_option maxHeartbeats 4000000 in
set_option maxRecDepth 100000 in
theorem c_X0_leadingSchool_x (l : Launch) (D : va_G) (κ : Nat → ClassId) (a : Nat → Nat) (v : VS) (hv : ok_v v) (hls : l.stackTraces = false) (hw0 : wl_ v (hh_ v) (tt_ v) = 0) : Tx l yX0_leadingSchool cX0_leadingSchool 7 (some .int) 6 82 (Pt_ D (kt_ κ) (xw κ a v) [.ref (a 0)]) "java/lang/IllegalStateException" := by
  refine tx_intro (own := RX0) (by decide +kernel) rfl (Nat.le_of_ble_eq_true rfl) ?_
  intro p e s m args below meth c ls hx hb hml hown hts hK hP hT ht hlocks hl
  have hl : lv_has ls 7 [(0, .ref (a 0))] := hl
  obtain ⟨hv1, hv2, hv3, hv4, hv5, hv6⟩ := id hv
  have hq1 := hh_le v
  have hq2 := hh_tt v
  refine lv_iconst (v := (-1)) hx hb dX0_leadingSchool_0 (by decide) ?_
  refine lv_istore_n (lv' := [(1, .int (-1)), (0, .ref (a 0))]) hx hb dX0_leadingSchool_1 rfl hl (by decide) rfl (fun ls hl => ?_)
  refine lv_lconst (v := lN (0)) hx hb dX0_leadingSchool_2 (by decide) ?_
  refine lv_lstore_n (lv' := [(2, .long (lN (0))), (1, .int (-1)), (0, .ref (a 0))]) hx hb dX0_leadingSchool_3 rfl hl (by decide) rfl (fun ls hl => ?_)
  refine lv_iconst (v := nI (0)) hx hb dX0_leadingSchool_4 (by decide) ?_
  refine lv_istore (lv' := [(4, .int (nI (0))), (2, .long (lN (0))), (1, .int (-1)), (0, .ref (a 0))]) hx hb dX0_leadingSchool_5 hl (by decide) rfl (fun ls hl => ?_)
  suffices hloop_7 : ∀ (n_7 i : Nat) (ls : Array Slot), i + n_7 = vs_n v → lv_has ls 7 [(0, .ref (a 0)), (1, .int (ls2_ v (hh_ v) (tt_ v) i)), (2, .long (lN (gs2_ v (hh_ v) (tt_ v) i))), (4, .int (nI (i)))] → W p l e (rx_ 6 82) s m args below meth c s.heap [] 0 0 (vx_MQ below Qf (XE "java/lang/IllegalStateException") args s 1 6 (fun _ => False)) (F0 m 7 ls []) from hloop_7 (vs_n v - 0) (0) ls (by omega) (lv_cast (k := [(0, .ref (a 0)), (1, .int (-1)), (2, .long (lN (0))), (4, .int (nI (0)))]) (lv_sub hl [3, 2, 1, 0] rfl) (lc_cons rfl (lc_cons (congrArg (fun z : Int32 => ((1 : Nat), Value.int z)) (show (-1 : Int32) = ls2_ v (hh_ v) (tt_ v) 0 from by rfl)) (lc_cons (congrArg (fun z : Nat => ((2 : Nat), Value.long (lN z))) (show (0 : Nat) = gs2_ v (hh_ v) (tt_ v) 0 from by first | rfl | omega)) (lc_cons rfl rfl)))))
  intro n_7
  induction n_7 with
  | zero =>
    intro i ls hin_7 hl
    have hi_7 : i = vs_n v := by omega
    have hb1 := sc_b hv i (a := hh_ v) (b := tt_ v) (by omega)
    have hb2 := gs2_b hv i (a := hh_ v) (b := tt_ v) (by omega)
    refine lv_iload hx hb dX0_leadingSchool_7 (lv_at hl 3 rfl) ?_
    refine lv_aload_n hx hb dX0_leadingSchool_9 rfl (lv_at hl 0 rfl) ?_
    refine va_get (D := D) (ci := 0) (v := .int (nI (vs_n v))) (C := RX0) (T := TX0) (N := 7) hx hb hts i_X0 hown hK hP 0 rfl rfl 5 (by decide) (hts _ q_f_X0_29) (fun _ h9 => h9) rfl dX0_leadingSchool_10 ?_
    refine nv_icmp_ge (tgt := 43) hx hb dX0_leadingSchool_13 (by decide) (by omega) (by omega) (fun c_13 => ?_) (fun z => absurd z (by omega))
    refine lv_iload_n hx hb dX0_leadingSchool_43 rfl (lv_at hl 1 rfl) ?_
    refine lv_iconst (v := (-1)) hx hb dX0_leadingSchool_44 (by decide) ?_
    refine lv_icmp_ne (tgt := 58) hx hb dX0_leadingSchool_45 (by decide) (fun z => absurd z (fun q => q (by rw [hi_7]; exact ls2_zero hw0))) (fun c_45 => ?_)
    exact tx_throw hx hb hls hown hts hT tg0_ISE q_cl_X0_42 q_ie_ISE (show ((112 : Nat), "the whole weight is 0") ∈ lw_strs by decide) tg1_ISE tg2_ISE tg3_ISE (hl.1.trans hml.symm) dX0_leadingSchool_48 dX0_leadingSchool_51 dX0_leadingSchool_52 dX0_leadingSchool_54 dX0_leadingSchool_57 ht (Nat.le_of_ble_eq_true rfl) (Nat.le_of_ble_eq_true rfl) (Nat.le_of_ble_eq_true rfl) (Nat.le_of_ble_eq_true rfl) hlocks
  | succ n_7 ih_7 =>
    intro i ls hin_7 hl
    have hb1 := sc_b hv i (a := hh_ v) (b := tt_ v) (by omega)
    have hb2 := gs2_b hv i (a := hh_ v) (b := tt_ v) (by omega)
    refine lv_iload hx hb dX0_leadingSchool_7 (lv_at hl 3 rfl) ?_
    refine lv_aload_n hx hb dX0_leadingSchool_9 rfl (lv_at hl 0 rfl) ?_
    refine va_get (D := D) (ci := 0) (v := .int (nI (vs_n v))) (C := RX0) (T := TX0) (N := 7) hx hb hts i_X0 hown hK hP 0 rfl rfl 5 (by decide) (hts _ q_f_X0_29) (fun _ h9 => h9) rfl dX0_leadingSchool_10 ?_
    refine nv_icmp_ge (tgt := 43) hx hb dX0_leadingSchool_13 (by decide) (by omega) (by omega) (fun z => absurd z (by omega)) (fun c_13 => ?_)
    refine lv_aload_n hx hb dX0_leadingSchool_16 rfl (lv_at hl 0 rfl) ?_
    refine lv_iload hx hb dX0_leadingSchool_17 (lv_at hl 3 rfl) ?_
    refine rd_V (rest := []) ⟨hx, hb, hml, hown, hts⟩ (c_X0_schoolWeightNow l D κ a v hv (i) (by omega)) g_X0_96 n_X0_schoolWeightNow ⟨Nat.le_of_ble_eq_true rfl, Nat.le_of_ble_eq_true rfl⟩ hK hP rfl rfl rfl hl.1 rfl (Nat.le_of_ble_eq_true rfl) dX0_leadingSchool_19 ⟨Nat.zero_le _, Nat.zero_le _⟩ ?_
    refine lv_lstore (lv' := [(5, .long (lN (sc_ v i (hh_ v) (tt_ v)))), (0, .ref (a 0)), (1, .int (ls2_ v (hh_ v) (tt_ v) i)), (2, .long (lN (gs2_ v (hh_ v) (tt_ v) i))), (4, .int (nI (i)))]) hx hb dX0_leadingSchool_22 hl (by decide) rfl (fun ls hl => ?_)
    refine lv_lload hx hb dX0_leadingSchool_24 (lv_at hl 0 rfl) ?_
    refine lv_lload_n hx hb dX0_leadingSchool_26 rfl (lv_at hl 3 rfl) ?_
    refine nv_lc_le (tgt := 37) hx hb dX0_leadingSchool_27 dX0_leadingSchool_28 (by decide) (by omega) (by omega) (fun c_28 => ?_) (fun c_28 => ?_)
    · refine lv_iinc (v := nI (i + 1)) (lv' := [(4, .int (nI (i + 1))), (5, .long (lN (sc_ v i (hh_ v) (tt_ v)))), (0, .ref (a 0)), (1, .int (ls2_ v (hh_ v) (tt_ v) i)), (2, .long (lN (gs2_ v (hh_ v) (tt_ v) i)))]) hx hb dX0_leadingSchool_37 hl (k := 4) rfl (nI_add _ _) (by decide) rfl (fun ls hl => ?_)
      refine lv_goto (tgt := 7) hx hb dX0_leadingSchool_40 (by decide) ?_
      exact ih_7 (i + 1) ls (by omega) (lv_cast (k := [(0, .ref (a 0)), (1, .int (ls2_ v (hh_ v) (tt_ v) i)), (2, .long (lN (gs2_ v (hh_ v) (tt_ v) i))), (4, .int (nI (i + 1)))]) (lv_sub hl [2, 3, 4, 0] rfl) (lc_cons rfl (lc_cons (congrArg (fun z : Int32 => ((1 : Nat), Value.int z)) (show (ls2_ v (hh_ v) (tt_ v) i : Int32) = ls2_ v (hh_ v) (tt_ v) (i + 1) from by first | exact ls2_up c_28 | exact ls2_eq c_28)) (lc_cons (congrArg (fun z : Nat => ((2 : Nat), Value.long (lN z))) (show (gs2_ v (hh_ v) (tt_ v) i : Nat) = gs2_ v (hh_ v) (tt_ v) (i + 1) from by first | exact gs2_up c_28 | exact gs2_eq c_28)) (lc_cons (congrArg (fun z : Nat => ((4 : Nat), Value.int (nI z))) (show (i + 1 : Nat) = (i + 1) from by first | rfl | omega)) rfl)))))
    · refine lv_lload hx hb dX0_leadingSchool_31 (lv_at hl 0 rfl) ?_
      refine lv_lstore_n (lv' := [(2, .long (lN (sc_ v i (hh_ v) (tt_ v)))), (5, .long (lN (sc_ v i (hh_ v) (tt_ v)))), (0, .ref (a 0)), (1, .int (ls2_ v (hh_ v) (tt_ v) i)), (4, .int (nI (i)))]) hx hb dX0_leadingSchool_33 rfl hl (by decide) rfl (fun ls hl => ?_)
      refine lv_iload hx hb dX0_leadingSchool_34 (lv_at hl 4 rfl) ?_
      refine lv_istore_n (lv' := [(1, .int (nI (i))), (2, .long (lN (sc_ v i (hh_ v) (tt_ v)))), (5, .long (lN (sc_ v i (hh_ v) (tt_ v)))), (0, .ref (a 0)), (4, .int (nI (i)))]) hx hb dX0_leadingSchool_36 rfl hl (by decide) rfl (fun ls hl => ?_)
      refine lv_iinc (v := nI (i + 1)) (lv' := [(4, .int (nI (i + 1))), (1, .int (nI (i))), (2, .long (lN (sc_ v i (hh_ v) (tt_ v)))), (5, .long (lN (sc_ v i (hh_ v) (tt_ v)))), (0, .ref (a 0))]) hx hb dX0_leadingSchool_37 hl (k := 4) rfl (nI_add _ _) (by decide) rfl (fun ls hl => ?_)
      refine lv_goto (tgt := 7) hx hb dX0_leadingSchool_40 (by decide) ?_
      exact ih_7 (i + 1) ls (by omega) (lv_cast (k := [(0, .ref (a 0)), (1, .int (nI (i))), (2, .long (lN (sc_ v i (hh_ v) (tt_ v)))), (4, .int (nI (i + 1)))]) (lv_sub hl [4, 1, 2, 0] rfl) (lc_cons rfl (lc_cons (congrArg (fun z : Int32 => ((1 : Nat), Value.int z)) (show (nI (i) : Int32) = ls2_ v (hh_ v) (tt_ v) (i + 1) from by first | exact ls2_up c_28 | exact ls2_eq c_28)) (lc_cons (congrArg (fun z : Nat => ((2 : Nat), Value.long (lN z))) (show (sc_ v i (hh_ v) (tt_ v) : Nat) = gs2_ v (hh_ v) (tt_ v) (i + 1) from by first | exact gs2_up c_28 | exact gs2_eq c_28)) (lc_cons (congrArg (fun z : Nat => ((4 : Nat), Value.int (nI z))) (show (i + 1 : Nat) = (i + 1) from by first | rfl | omega)) rfl)))))
set_option maxHeartbeats 4000000 in
set_option maxRecDepth 100000 in
theorem c_X0_oddsAgainst_x1 (l : Launch) (D : va_G) (κ : Nat → ClassId) (a : Nat → Nat) (v : VS) (hv : ok_v v) (hls : l.stackTraces = false) (x : Int32) (y : Int32) (hx0 : ix_ x (vs_c v) = false) : Tx l yX0_oddsAgainst cX0_oddsAgainst 7 (some .long) 7 103 (Pt_ D (kt_ κ) (xw κ a v) [.ref (a 0), .int (x), .int (y)]) "java/lang/IndexOutOfBoundsException" := by
  refine tx_intro (own := RX0) (by decide +kernel) rfl (Nat.le_of_ble_eq_true rfl) ?_
  intro p e s m args below meth c ls hx hb hml hown hts hK hP hT ht hlocks hl
  have hl : lv_has ls 7 [(0, .ref (a 0)), (1, .int (x)), (2, .int (y))] := hl
  obtain ⟨hv1, hv2, hv3, hv4, hv5, hv6⟩ := id hv
  refine lv_aload_n hx hb dX0_oddsAgainst_0 rfl (lv_at hl 0 rfl) ?_
  refine lv_iload_n hx hb dX0_oddsAgainst_1 rfl (lv_at hl 1 rfl) ?_
  exact tx_V (rest := []) ⟨hx, hb, hml, hown, hts⟩ (c_X0_needCoin_x l D κ a v hv hls (x) (hx0)) g_X0_58 n_X0_needCoin ⟨Nat.le_of_ble_eq_true rfl, Nat.le_of_ble_eq_true rfl⟩ hK hP hT rfl rfl rfl hl.1 rfl (Nat.le_of_ble_eq_true rfl) dX0_oddsAgainst_2 ⟨Nat.le_of_ble_eq_true rfl, Nat.le_of_ble_eq_true rfl⟩ ht hlocks
set_option maxHeartbeats 4000000 in
set_option maxRecDepth 100000 in
theorem c_X0_oddsAgainst_x2 (l : Launch) (D : va_G) (κ : Nat → ClassId) (a : Nat → Nat) (v : VS) (hv : ok_v v) (hls : l.stackTraces = false) (c_ : Nat) (y : Int32) (hc : c_ < vs_c v) (hx0 : ix_ y (vs_c v) = false) : Tx l yX0_oddsAgainst cX0_oddsAgainst 7 (some .long) 7 103 (Pt_ D (kt_ κ) (xw κ a v) [.ref (a 0), .int (nI (c_)), .int (y)]) "java/lang/IndexOutOfBoundsException" := by
  refine tx_intro (own := RX0) (by decide +kernel) rfl (Nat.le_of_ble_eq_true rfl) ?_
  intro p e s m args below meth c ls hx hb hml hown hts hK hP hT ht hlocks hl
  have hl : lv_has ls 7 [(0, .ref (a 0)), (1, .int (nI (c_))), (2, .int (y))] := hl
  obtain ⟨hv1, hv2, hv3, hv4, hv5, hv6⟩ := id hv
  refine lv_aload_n hx hb dX0_oddsAgainst_0 rfl (lv_at hl 0 rfl) ?_
  refine lv_iload_n hx hb dX0_oddsAgainst_1 rfl (lv_at hl 1 rfl) ?_
  refine rd_VN (rest := []) ⟨hx, hb, hml, hown, hts⟩ (c_X0_needCoin l D κ a v hv (c_) (by omega)) g_X0_58 n_X0_needCoin ⟨Nat.le_of_ble_eq_true rfl, Nat.le_of_ble_eq_true rfl⟩ hK hP rfl rfl rfl hl.1 rfl (Nat.le_of_ble_eq_true rfl) dX0_oddsAgainst_2 ⟨Nat.zero_le _, Nat.zero_le _⟩ ?_
  refine lv_aload_n hx hb dX0_oddsAgainst_5 rfl (lv_at hl 0 rfl) ?_
  refine lv_iload_n hx hb dX0_oddsAgainst_6 rfl (lv_at hl 2 rfl) ?_
  exact tx_V (rest := []) ⟨hx, hb, hml, hown, hts⟩ (c_X0_needCoin_x l D κ a v hv hls (y) (hx0)) g_X0_58 n_X0_needCoin ⟨Nat.le_of_ble_eq_true rfl, Nat.le_of_ble_eq_true rfl⟩ hK hP hT rfl rfl rfl hl.1 rfl (Nat.le_of_ble_eq_true rfl) dX0_oddsAgainst_7 ⟨Nat.le_of_ble_eq_true rfl, Nat.le_of_ble_eq_true rfl⟩ ht hlocks
set_option maxHeartbeats 4000000 in
set_option maxRecDepth 100000 in
theorem c_X0_oddsAgainst_x3 (l : Launch) (D : va_G) (κ : Nat → ClassId) (a : Nat → Nat) (v : VS) (hv : ok_v v) (hls : l.stackTraces = false) (c_ : Nat) (d_ : Nat) (hc : c_ < vs_c v) (hd : d_ < vs_c v) (hz : wt_ v d_ (hh_ v) (tt_ v) = 0) : Tx l yX0_oddsAgainst cX0_oddsAgainst 7 (some .long) 6 82 (Pt_ D (kt_ κ) (xw κ a v) [.ref (a 0), .int (nI (c_)), .int (nI (d_))]) "java/lang/IllegalStateException" := by
  refine tx_intro (own := RX0) (by decide +kernel) rfl (Nat.le_of_ble_eq_true rfl) ?_
  intro p e s m args below meth c ls hx hb hml hown hts hK hP hT ht hlocks hl
  have hl : lv_has ls 7 [(0, .ref (a 0)), (1, .int (nI (c_))), (2, .int (nI (d_)))] := hl
  obtain ⟨hv1, hv2, hv3, hv4, hv5, hv6⟩ := id hv
  have hq1 := hh_le v
  have hq2 := hh_tt v
  refine lv_aload_n hx hb dX0_oddsAgainst_0 rfl (lv_at hl 0 rfl) ?_
  refine lv_iload_n hx hb dX0_oddsAgainst_1 rfl (lv_at hl 1 rfl) ?_
  refine rd_VN (rest := []) ⟨hx, hb, hml, hown, hts⟩ (c_X0_needCoin l D κ a v hv (c_) (by omega)) g_X0_58 n_X0_needCoin ⟨Nat.le_of_ble_eq_true rfl, Nat.le_of_ble_eq_true rfl⟩ hK hP rfl rfl rfl hl.1 rfl (Nat.le_of_ble_eq_true rfl) dX0_oddsAgainst_2 ⟨Nat.zero_le _, Nat.zero_le _⟩ ?_
  refine lv_aload_n hx hb dX0_oddsAgainst_5 rfl (lv_at hl 0 rfl) ?_
  refine lv_iload_n hx hb dX0_oddsAgainst_6 rfl (lv_at hl 2 rfl) ?_
  refine rd_VN (rest := []) ⟨hx, hb, hml, hown, hts⟩ (c_X0_needCoin l D κ a v hv (d_) (by omega)) g_X0_58 n_X0_needCoin ⟨Nat.le_of_ble_eq_true rfl, Nat.le_of_ble_eq_true rfl⟩ hK hP rfl rfl rfl hl.1 rfl (Nat.le_of_ble_eq_true rfl) dX0_oddsAgainst_7 ⟨Nat.zero_le _, Nat.zero_le _⟩ ?_
  refine lv_aload_n hx hb dX0_oddsAgainst_10 rfl (lv_at hl 0 rfl) ?_
  refine rd_V (rest := []) ⟨hx, hb, hml, hown, hts⟩ (c_X0_headsNow l D κ a v hv) g_X0_69 n_X0_headsNow ⟨Nat.le_of_ble_eq_true rfl, Nat.le_of_ble_eq_true rfl⟩ hK hP rfl rfl rfl hl.1 rfl (Nat.le_of_ble_eq_true rfl) dX0_oddsAgainst_11 ⟨Nat.zero_le _, Nat.zero_le _⟩ ?_
  refine lv_istore_n (lv' := [(3, .int (nI (hh_ v))), (0, .ref (a 0)), (1, .int (nI (c_))), (2, .int (nI (d_)))]) hx hb dX0_oddsAgainst_14 rfl hl (by decide) rfl (fun ls hl => ?_)
  refine lv_aload_n hx hb dX0_oddsAgainst_15 rfl (lv_at hl 1 rfl) ?_
  refine rd_V (rest := []) ⟨hx, hb, hml, hown, hts⟩ (c_X0_tailsNow l D κ a v hv) g_X0_73 n_X0_tailsNow ⟨Nat.le_of_ble_eq_true rfl, Nat.le_of_ble_eq_true rfl⟩ hK hP rfl rfl rfl hl.1 rfl (Nat.le_of_ble_eq_true rfl) dX0_oddsAgainst_16 ⟨Nat.zero_le _, Nat.zero_le _⟩ ?_
  refine lv_istore (lv' := [(4, .int (nI (tt_ v))), (3, .int (nI (hh_ v))), (0, .ref (a 0)), (1, .int (nI (c_))), (2, .int (nI (d_)))]) hx hb dX0_oddsAgainst_19 hl (by decide) rfl (fun ls hl => ?_)
  refine lv_aload_n hx hb dX0_oddsAgainst_21 rfl (lv_at hl 2 rfl) ?_
  refine lv_iload_n hx hb dX0_oddsAgainst_22 rfl (lv_at hl 4 rfl) ?_
  refine lv_iload_n hx hb dX0_oddsAgainst_23 rfl (lv_at hl 1 rfl) ?_
  refine lv_iload hx hb dX0_oddsAgainst_24 (lv_at hl 0 rfl) ?_
  refine rd_V (rest := []) ⟨hx, hb, hml, hown, hts⟩ (c_X0_coinWeightAt l D κ a v hv (d_) (hh_ v) (tt_ v) (by omega) (by omega) (by omega)) g_X0_93 n_X0_coinWeightAt ⟨Nat.le_of_ble_eq_true rfl, Nat.le_of_ble_eq_true rfl⟩ hK hP rfl rfl rfl hl.1 rfl (Nat.le_of_ble_eq_true rfl) dX0_oddsAgainst_26 ⟨Nat.zero_le _, Nat.zero_le _⟩ ?_
  refine lv_lstore (lv' := [(5, .long (lN (wt_ v d_ (hh_ v) (tt_ v)))), (4, .int (nI (tt_ v))), (3, .int (nI (hh_ v))), (0, .ref (a 0)), (1, .int (nI (c_))), (2, .int (nI (d_)))]) hx hb dX0_oddsAgainst_29 hl (by decide) rfl (fun ls hl => ?_)
  refine lv_lload hx hb dX0_oddsAgainst_31 (lv_at hl 0 rfl) ?_
  refine lv_lconst (v := lN (0)) hx hb dX0_oddsAgainst_33 (by decide) ?_
  refine nv_lc_ne (tgt := 48) hx hb dX0_oddsAgainst_34 dX0_oddsAgainst_35 (by decide) (by omega) (by omega) (fun z => absurd z (by omega)) (fun c_35 => ?_)
  exact tx_throw hx hb hls hown hts hT tg0_ISE q_cl_X0_42 q_ie_ISE (show ((114 : Nat), "the second coin is ruled out") ∈ lw_strs by decide) tg1_ISE tg2_ISE tg3_ISE (hl.1.trans hml.symm) dX0_oddsAgainst_38 dX0_oddsAgainst_41 dX0_oddsAgainst_42 dX0_oddsAgainst_44 dX0_oddsAgainst_47 ht (Nat.le_of_ble_eq_true rfl) (Nat.le_of_ble_eq_true rfl) (Nat.le_of_ble_eq_true rfl) (Nat.le_of_ble_eq_true rfl) hlocks
set_option maxHeartbeats 4000000 in
set_option maxRecDepth 100000 in
theorem c_X0_surpriseOf_x (l : Launch) (D : va_G) (κ : Nat → ClassId) (a : Nat → Nat) (v : VS) (hv : ok_v v) (hls : l.stackTraces = false) (x : Int32) (hx0 : ix_ x (vs_t v) = false) : Tx l yX0_surpriseOf cX0_surpriseOf 2 (some .int) 7 130 (Pt_ D (kt_ κ) (xw κ a v) [.ref (a 0), .int (x)]) "java/lang/IndexOutOfBoundsException" := by
  refine tx_intro (own := RX0) (by decide +kernel) rfl (Nat.le_of_ble_eq_true rfl) ?_
  intro p e s m args below meth c ls hx hb hml hown hts hK hP hT ht hlocks hl
  have hl : lv_has ls 2 [(0, .ref (a 0)), (1, .int (x))] := hl
  obtain ⟨hv1, hv2, hv3, hv4, hv5, hv6⟩ := id hv
  refine lv_aload_n hx hb dX0_surpriseOf_0 rfl (lv_at hl 0 rfl) ?_
  refine lv_iload_n hx hb dX0_surpriseOf_1 rfl (lv_at hl 1 rfl) ?_
  exact tx_V (rest := []) ⟨hx, hb, hml, hown, hts⟩ (c_X0_needToss_x l D κ a v hv hls (x) (hx0)) g_X0_82 n_X0_needToss ⟨Nat.le_of_ble_eq_true rfl, Nat.le_of_ble_eq_true rfl⟩ hK hP hT rfl rfl rfl hl.1 rfl (Nat.le_of_ble_eq_true rfl) dX0_surpriseOf_2 ⟨Nat.le_of_ble_eq_true rfl, Nat.le_of_ble_eq_true rfl⟩ ht hlocks
set_option maxHeartbeats 4000000 in
set_option maxRecDepth 100000 in
theorem c_X0_headsPercent_x (l : Launch) (D : va_G) (κ : Nat → ClassId) (a : Nat → Nat) (v : VS) (hv : ok_v v) (hls : l.stackTraces = false) (hw0 : wl_ v (hh_ v) (tt_ v) = 0) : Tx l yX0_headsPercent cX0_headsPercent 5 (some .int) 7 105 (Pt_ D (kt_ κ) (xw κ a v) [.ref (a 0)]) "java/lang/IllegalStateException" := by
  refine tx_intro (own := RX0) (by decide +kernel) rfl (Nat.le_of_ble_eq_true rfl) ?_
  intro p e s m args below meth c ls hx hb hml hown hts hK hP hT ht hlocks hl
  have hl : lv_has ls 5 [(0, .ref (a 0))] := hl
  obtain ⟨hv1, hv2, hv3, hv4, hv5, hv6⟩ := id hv
  have hq1 := hh_le v
  have hq2 := hh_tt v
  have hb9 := ch_both hv (hh_ v) (tt_ v)
  refine lv_aload_n hx hb dX0_headsPercent_0 rfl (lv_at hl 0 rfl) ?_
  refine rd_V (rest := []) ⟨hx, hb, hml, hown, hts⟩ (c_X0_headsNow l D κ a v hv) g_X0_69 n_X0_headsNow ⟨Nat.le_of_ble_eq_true rfl, Nat.le_of_ble_eq_true rfl⟩ hK hP rfl rfl rfl hl.1 rfl (Nat.le_of_ble_eq_true rfl) dX0_headsPercent_1 ⟨Nat.zero_le _, Nat.zero_le _⟩ ?_
  refine lv_istore_n (lv' := [(1, .int (nI (hh_ v))), (0, .ref (a 0))]) hx hb dX0_headsPercent_4 rfl hl (by decide) rfl (fun ls hl => ?_)
  refine lv_aload_n hx hb dX0_headsPercent_5 rfl (lv_at hl 1 rfl) ?_
  refine rd_V (rest := []) ⟨hx, hb, hml, hown, hts⟩ (c_X0_tailsNow l D κ a v hv) g_X0_73 n_X0_tailsNow ⟨Nat.le_of_ble_eq_true rfl, Nat.le_of_ble_eq_true rfl⟩ hK hP rfl rfl rfl hl.1 rfl (Nat.le_of_ble_eq_true rfl) dX0_headsPercent_6 ⟨Nat.zero_le _, Nat.zero_le _⟩ ?_
  refine lv_istore_n (lv' := [(2, .int (nI (tt_ v))), (1, .int (nI (hh_ v))), (0, .ref (a 0))]) hx hb dX0_headsPercent_9 rfl hl (by decide) rfl (fun ls hl => ?_)
  refine lv_aload_n hx hb dX0_headsPercent_10 rfl (lv_at hl 2 rfl) ?_
  refine lv_iconst (v := nI (1)) hx hb dX0_headsPercent_11 (by decide) ?_
  refine nv_topi (show (nI (1) : Int32) = bI (true) from by rfl) ?_
  refine lv_iload_n hx hb dX0_headsPercent_12 rfl (lv_at hl 1 rfl) ?_
  refine lv_iload_n hx hb dX0_headsPercent_13 rfl (lv_at hl 0 rfl) ?_
  refine rd_V (rest := []) ⟨hx, hb, hml, hown, hts⟩ (c_X0_chance l D κ a v hv (true) (hh_ v) (tt_ v) (by omega) (by omega)) g_X0_120 n_X0_chance ⟨Nat.le_of_ble_eq_true rfl, Nat.le_of_ble_eq_true rfl⟩ hK hP rfl rfl rfl hl.1 rfl (Nat.le_of_ble_eq_true rfl) dX0_headsPercent_14 ⟨Nat.zero_le _, Nat.zero_le _⟩ ?_
  refine lv_lstore_n (lv' := [(3, .long (lN (ch_ v true (hh_ v) (tt_ v)))), (2, .int (nI (tt_ v))), (1, .int (nI (hh_ v))), (0, .ref (a 0))]) hx hb dX0_headsPercent_17 rfl hl (by decide) rfl (fun ls hl => ?_)
  refine lv_lload_n hx hb dX0_headsPercent_18 rfl (lv_at hl 0 rfl) ?_
  refine lv_lload_n hx hb dX0_headsPercent_19 rfl (lv_at hl 0 rfl) ?_
  refine lv_aload_n hx hb dX0_headsPercent_20 rfl (lv_at hl 3 rfl) ?_
  refine lv_iconst (v := nI (0)) hx hb dX0_headsPercent_21 (by decide) ?_
  refine nv_topi (show (nI (0) : Int32) = bI (false) from by rfl) ?_
  refine lv_iload_n hx hb dX0_headsPercent_22 rfl (lv_at hl 2 rfl) ?_
  refine lv_iload_n hx hb dX0_headsPercent_23 rfl (lv_at hl 1 rfl) ?_
  refine rd_V (rest := [.long (lN (ch_ v true (hh_ v) (tt_ v))), .long (lN (ch_ v true (hh_ v) (tt_ v)))]) ⟨hx, hb, hml, hown, hts⟩ (c_X0_chance l D κ a v hv (false) (hh_ v) (tt_ v) (by omega) (by omega)) g_X0_120 n_X0_chance ⟨Nat.le_of_ble_eq_true rfl, Nat.le_of_ble_eq_true rfl⟩ hK hP rfl rfl rfl hl.1 rfl (Nat.le_of_ble_eq_true rfl) dX0_headsPercent_24 ⟨Nat.zero_le _, Nat.zero_le _⟩ ?_
  refine nv_ladd hx hb dX0_headsPercent_27 rfl ?_
  exact tx_S (rest := []) ⟨hx, hb, hml, hown, hts⟩ (c_X0_percent_x l hls (lN (ch_ v true (hh_ v) (tt_ v))) ((ch_ v true (hh_ v) (tt_ v)) + (ch_ v false (hh_ v) (tt_ v))) (by omega)) g_X0_104 n_X0_percent ⟨Nat.le_of_ble_eq_true rfl, Nat.le_of_ble_eq_true rfl⟩ hT rfl hl.1 rfl (Nat.le_of_ble_eq_true rfl) dX0_headsPercent_28 ⟨Nat.le_of_ble_eq_true rfl, Nat.le_of_ble_eq_true rfl⟩ ht hlocks
set_option maxHeartbeats 4000000 in
set_option maxRecDepth 100000 in
theorem c_X0_wouldSurprise_x (l : Launch) (D : va_G) (κ : Nat → ClassId) (a : Nat → Nat) (v : VS) (hv : ok_v v) (hls : l.stackTraces = false) (h_ : Bool) (hp0 : ch_ v h_ (hh_ v) (tt_ v) = 0) : Tx l yX0_wouldSurprise cX0_wouldSurprise 2 (some .int) 7 108 (Pt_ D (kt_ κ) (xw κ a v) [.ref (a 0), .int (bI (h_))]) "java/lang/IllegalStateException" := by
  refine tx_intro (own := RX0) (by decide +kernel) rfl (Nat.le_of_ble_eq_true rfl) ?_
  intro p e s m args below meth c ls hx hb hml hown hts hK hP hT ht hlocks hl
  have hl : lv_has ls 2 [(0, .ref (a 0)), (1, .int (bI (h_)))] := hl
  obtain ⟨hv1, hv2, hv3, hv4, hv5, hv6⟩ := id hv
  refine lv_aload_n hx hb dX0_wouldSurprise_0 rfl (lv_at hl 0 rfl) ?_
  refine lv_iload_n hx hb dX0_wouldSurprise_1 rfl (lv_at hl 1 rfl) ?_
  exact tx_V (rest := []) ⟨hx, hb, hml, hown, hts⟩ (c_X0_needPossible_x l D κ a v hv hls (h_) (hp0)) g_X0_65 n_X0_needPossible ⟨Nat.le_of_ble_eq_true rfl, Nat.le_of_ble_eq_true rfl⟩ hK hP hT rfl rfl rfl hl.1 rfl (Nat.le_of_ble_eq_true rfl) dX0_wouldSurprise_2 ⟨Nat.le_of_ble_eq_true rfl, Nat.le_of_ble_eq_true rfl⟩ ht hlocks
set_option maxHeartbeats 4000000 in
set_option maxRecDepth 100000 in
theorem c_X0_leaderBehind_x (l : Launch) (D : va_G) (κ : Nat → ClassId) (a : Nat → Nat) (v : VS) (hv : ok_v v) (hls : l.stackTraces = false) (h_ : Bool) (hp0 : ch_ v h_ (hh_ v) (tt_ v) = 0) : Tx l yX0_leaderBehind cX0_leaderBehind 2 (some .int) 7 103 (Pt_ D (kt_ κ) (xw κ a v) [.ref (a 0), .int (bI (h_))]) "java/lang/IllegalStateException" := by
  refine tx_intro (own := RX0) (by decide +kernel) rfl (Nat.le_of_ble_eq_true rfl) ?_
  intro p e s m args below meth c ls hx hb hml hown hts hK hP hT ht hlocks hl
  have hl : lv_has ls 2 [(0, .ref (a 0)), (1, .int (bI (h_)))] := hl
  obtain ⟨hv1, hv2, hv3, hv4, hv5, hv6⟩ := id hv
  refine lv_aload_n hx hb dX0_leaderBehind_0 rfl (lv_at hl 0 rfl) ?_
  refine lv_iload_n hx hb dX0_leaderBehind_1 rfl (lv_at hl 1 rfl) ?_
  exact tx_V (rest := []) ⟨hx, hb, hml, hown, hts⟩ (c_X0_needPossible_x l D κ a v hv hls (h_) (hp0)) g_X0_65 n_X0_needPossible ⟨Nat.le_of_ble_eq_true rfl, Nat.le_of_ble_eq_true rfl⟩ hK hP hT rfl rfl rfl hl.1 rfl (Nat.le_of_ble_eq_true rfl) dX0_leaderBehind_2 ⟨Nat.le_of_ble_eq_true rfl, Nat.le_of_ble_eq_true rfl⟩ ht hlocks
set_option maxHeartbeats 4000000 in
set_option maxRecDepth 100000 in
theorem c_X0_tossesToLead_x (l : Launch) (D : va_G) (κ : Nat → ClassId) (a : Nat → Nat) (v : VS) (hv : ok_v v) (hls : l.stackTraces = false) (x : Int32) (hx0 : ix_ x (vs_c v) = false) : Tx l yX0_tossesToLead cX0_tossesToLead 5 (some .int) 7 103 (Pt_ D (kt_ κ) (xw κ a v) [.ref (a 0), .int (x)]) "java/lang/IndexOutOfBoundsException" := by
  refine tx_intro (own := RX0) (by decide +kernel) rfl (Nat.le_of_ble_eq_true rfl) ?_
  intro p e s m args below meth c ls hx hb hml hown hts hK hP hT ht hlocks hl
  have hl : lv_has ls 5 [(0, .ref (a 0)), (1, .int (x))] := hl
  obtain ⟨hv1, hv2, hv3, hv4, hv5, hv6⟩ := id hv
  refine lv_aload_n hx hb dX0_tossesToLead_0 rfl (lv_at hl 0 rfl) ?_
  refine lv_iload_n hx hb dX0_tossesToLead_1 rfl (lv_at hl 1 rfl) ?_
  exact tx_V (rest := []) ⟨hx, hb, hml, hown, hts⟩ (c_X0_needCoin_x l D κ a v hv hls (x) (hx0)) g_X0_58 n_X0_needCoin ⟨Nat.le_of_ble_eq_true rfl, Nat.le_of_ble_eq_true rfl⟩ hK hP hT rfl rfl rfl hl.1 rfl (Nat.le_of_ble_eq_true rfl) dX0_tossesToLead_2 ⟨Nat.le_of_ble_eq_true rfl, Nat.le_of_ble_eq_true rfl⟩ ht hlocks
set_option maxHeartbeats 4000000 in
set_option maxRecDepth 100000 in
theorem c_X0_meanTenths_x (l : Launch) (D : va_G) (κ : Nat → ClassId) (a : Nat → Nat) (v : VS) (hv : ok_v v) (hls : l.stackTraces = false) (hw0 : wl_ v (hh_ v) (tt_ v) = 0) : Tx l yX0_meanTenths cX0_meanTenths 3 (some .double) 6 98 (Pt_ D (kt_ κ) (xw κ a v) [.ref (a 0)]) "java/lang/IllegalStateException" := by
  refine tx_intro (own := RX0) (by decide +kernel) rfl (Nat.le_of_ble_eq_true rfl) ?_
  intro p e s m args below meth c ls hx hb hml hown hts hK hP hT ht hlocks hl
  have hl : lv_has ls 3 [(0, .ref (a 0))] := hl
  obtain ⟨hv1, hv2, hv3, hv4, hv5, hv6⟩ := id hv
  refine lv_aload_n hx hb dX0_meanTenths_0 rfl (lv_at hl 0 rfl) ?_
  refine rd_V (rest := []) ⟨hx, hb, hml, hown, hts⟩ (c_X0_wholeNow l D κ a v hv) g_X0_100 n_X0_wholeNow ⟨Nat.le_of_ble_eq_true rfl, Nat.le_of_ble_eq_true rfl⟩ hK hP rfl rfl rfl hl.1 rfl (Nat.le_of_ble_eq_true rfl) dX0_meanTenths_1 ⟨Nat.zero_le _, Nat.zero_le _⟩ ?_
  refine lv_lstore_n (lv' := [(1, .long (lN (wl_ v (hh_ v) (tt_ v)))), (0, .ref (a 0))]) hx hb dX0_meanTenths_4 rfl hl (by decide) rfl (fun ls hl => ?_)
  refine lv_lload_n hx hb dX0_meanTenths_5 rfl (lv_at hl 0 rfl) ?_
  refine lv_lconst (v := lN (0)) hx hb dX0_meanTenths_6 (by decide) ?_
  refine nv_lc_ne (tgt := 21) hx hb dX0_meanTenths_7 dX0_meanTenths_8 (by decide) (by omega) (by omega) (fun z => absurd z (by omega)) (fun c_8 => ?_)
  exact tx_throw hx hb hls hown hts hT tg0_ISE q_cl_X0_42 q_ie_ISE (show ((112 : Nat), "the whole weight is 0") ∈ lw_strs by decide) tg1_ISE tg2_ISE tg3_ISE (hl.1.trans hml.symm) dX0_meanTenths_11 dX0_meanTenths_14 dX0_meanTenths_15 dX0_meanTenths_17 dX0_meanTenths_20 ht (Nat.le_of_ble_eq_true rfl) (Nat.le_of_ble_eq_true rfl) (Nat.le_of_ble_eq_true rfl) (Nat.le_of_ble_eq_true rfl) hlocks
set_option maxHeartbeats 4000000 in
set_option maxRecDepth 100000 in
theorem c_X0_addCoin_x1 (l : Launch) (D : va_G) (κ : Nat → ClassId) (a : Nat → Nat) (v : VS) (hv : ok_v v) (hls : l.stackTraces = false) (x : Int32) (hx0 : ir_ x 0 10 = false) : Tx l yX0_addCoin cX0_addCoin 2 (some .int) 6 82 (Pt_ D (kt_ κ) (xw κ a v) [.ref (a 0), .int (x)]) "java/lang/IllegalArgumentException" := by
  refine tx_intro (own := RX0) (by decide +kernel) rfl (Nat.le_of_ble_eq_true rfl) ?_
  intro p e s m args below meth c ls hx hb hml hown hts hK hP hT ht hlocks hl
  have hl : lv_has ls 2 [(0, .ref (a 0)), (1, .int (x))] := hl
  obtain ⟨hv1, hv2, hv3, hv4, hv5, hv6⟩ := id hv
  refine lv_iload_n hx hb dX0_addCoin_0 rfl (lv_at hl 1 rfl) ?_
  refine lv_if_lt (tgt := 10) hx hb dX0_addCoin_1 (by decide) (fun c_1 => ?_) (fun c_1 => ?_)
  · exact tx_throw hx hb hls hown hts hT tg0_IAE q_cl_X0_35 q_ie_IAE (show ((37 : Nat), "tenths are 0 to 10") ∈ lw_strs by decide) tg1_IAE tg2_IAE tg3_IAE (hl.1.trans hml.symm) dX0_addCoin_10 dX0_addCoin_13 dX0_addCoin_14 dX0_addCoin_16 dX0_addCoin_19 ht (Nat.le_of_ble_eq_true rfl) (Nat.le_of_ble_eq_true rfl) (Nat.le_of_ble_eq_true rfl) (Nat.le_of_ble_eq_true rfl) hlocks
  · refine lv_iload_n hx hb dX0_addCoin_4 rfl (lv_at hl 1 rfl) ?_
    refine lv_bipush (v := nI (10)) hx hb dX0_addCoin_5 (by decide) ?_
    refine lv_icmp_le (tgt := 20) hx hb dX0_addCoin_7 (by decide) (fun z => absurd z (ir_no (a := 0) (b := 10) hx0 (by omega) c_1 (by omega))) (fun c_7 => ?_)
    exact tx_throw hx hb hls hown hts hT tg0_IAE q_cl_X0_35 q_ie_IAE (show ((37 : Nat), "tenths are 0 to 10") ∈ lw_strs by decide) tg1_IAE tg2_IAE tg3_IAE (hl.1.trans hml.symm) dX0_addCoin_10 dX0_addCoin_13 dX0_addCoin_14 dX0_addCoin_16 dX0_addCoin_19 ht (Nat.le_of_ble_eq_true rfl) (Nat.le_of_ble_eq_true rfl) (Nat.le_of_ble_eq_true rfl) (Nat.le_of_ble_eq_true rfl) hlocks
set_option maxHeartbeats 4000000 in
set_option maxRecDepth 100000 in
theorem c_X0_addCoin_x2 (l : Launch) (D : va_G) (κ : Nat → ClassId) (a : Nat → Nat) (v : VS) (hv : ok_v v) (hls : l.stackTraces = false) (t_ : Nat) (ht : t_ ≤ 10) (hz : vs_c v = 8 ∨ 0 < vs_t v) : Tx l yX0_addCoin cX0_addCoin 2 (some .int) 7 102 (Pt_ D (kt_ κ) (xw κ a v) [.ref (a 0), .int (nI (t_))]) "java/lang/IllegalStateException" := by
  refine tx_intro (own := RX0) (by decide +kernel) rfl (Nat.le_of_ble_eq_true rfl) ?_
  intro p e s m args below meth c ls hx hb hml hown hts hK hP hT ht hlocks hl
  have hl : lv_has ls 2 [(0, .ref (a 0)), (1, .int (nI (t_)))] := hl
  obtain ⟨hv1, hv2, hv3, hv4, hv5, hv6⟩ := id hv
  refine lv_iload_n hx hb dX0_addCoin_0 rfl (lv_at hl 1 rfl) ?_
  refine nv_if_lt (tgt := 10) hx hb dX0_addCoin_1 (by decide) (by omega) ?_
  refine lv_iload_n hx hb dX0_addCoin_4 rfl (lv_at hl 1 rfl) ?_
  refine lv_bipush (v := nI (10)) hx hb dX0_addCoin_5 (by decide) ?_
  refine nv_icmp_le (tgt := 20) hx hb dX0_addCoin_7 (by decide) (by omega) (by omega) (fun c_7 => ?_) (fun z => absurd z (by omega))
  refine lv_aload_n hx hb dX0_addCoin_20 rfl (lv_at hl 0 rfl) ?_
  refine va_get (D := D) (ci := 0) (v := .int (nI (vs_c v))) (C := RX0) (T := TX0) (N := 7) hx hb hts i_X0 hown hK hP 0 rfl rfl 4 (by decide) (hts _ q_f_X0_25) (fun _ h9 => h9) rfl dX0_addCoin_21 ?_
  refine lv_bipush (v := nI (8)) hx hb dX0_addCoin_24 (by decide) ?_
  refine nv_icmp_lt (tgt := 39) hx hb dX0_addCoin_26 (by decide) (by omega) (by omega) (fun c_26 => ?_) (fun c_26 => ?_)
  · refine lv_aload_n hx hb dX0_addCoin_39 rfl (lv_at hl 0 rfl) ?_
    exact tx_V (rest := []) ⟨hx, hb, hml, hown, hts⟩ (c_X0_needNoTosses_x l D κ a v hv hls (by omega)) g_X0_47 n_X0_needNoTosses ⟨Nat.le_of_ble_eq_true rfl, Nat.le_of_ble_eq_true rfl⟩ hK hP hT rfl rfl rfl hl.1 rfl (Nat.le_of_ble_eq_true rfl) dX0_addCoin_40 ⟨Nat.le_of_ble_eq_true rfl, Nat.le_of_ble_eq_true rfl⟩ ht hlocks
  · exact tx_throw hx hb hls hown hts hT tg0_ISE q_cl_X0_42 q_ie_ISE (show ((44 : Nat), "there are 8 coins") ∈ lw_strs by decide) tg1_ISE tg2_ISE tg3_ISE (hl.1.trans hml.symm) dX0_addCoin_29 dX0_addCoin_32 dX0_addCoin_33 dX0_addCoin_35 dX0_addCoin_38 ht (Nat.le_of_ble_eq_true rfl) (Nat.le_of_ble_eq_true rfl) (Nat.le_of_ble_eq_true rfl) (Nat.le_of_ble_eq_true rfl) hlocks
set_option maxHeartbeats 4000000 in
set_option maxRecDepth 100000 in
theorem c_X0_addSchool_x1 (l : Launch) (D : va_G) (κ : Nat → ClassId) (a : Nat → Nat) (v : VS) (hv : ok_v v) (hls : l.stackTraces = false) (x : Int32) (hx0 : ir_ x 1 9 = false) : Tx l yX0_addSchool cX0_addSchool 2 (some .int) 6 82 (Pt_ D (kt_ κ) (xw κ a v) [.ref (a 0), .int (x)]) "java/lang/IllegalArgumentException" := by
  refine tx_intro (own := RX0) (by decide +kernel) rfl (Nat.le_of_ble_eq_true rfl) ?_
  intro p e s m args below meth c ls hx hb hml hown hts hK hP hT ht hlocks hl
  have hl : lv_has ls 2 [(0, .ref (a 0)), (1, .int (x))] := hl
  obtain ⟨hv1, hv2, hv3, hv4, hv5, hv6⟩ := id hv
  refine lv_iload_n hx hb dX0_addSchool_0 rfl (lv_at hl 1 rfl) ?_
  refine lv_iconst (v := nI (1)) hx hb dX0_addSchool_1 (by decide) ?_
  refine lv_icmp_lt (tgt := 11) hx hb dX0_addSchool_2 (by decide) (fun c_2 => ?_) (fun c_2 => ?_)
  · exact tx_throw hx hb hls hown hts hT tg0_IAE q_cl_X0_35 q_ie_IAE (show ((50 : Nat), "odds are 1 to 9") ∈ lw_strs by decide) tg1_IAE tg2_IAE tg3_IAE (hl.1.trans hml.symm) dX0_addSchool_11 dX0_addSchool_14 dX0_addSchool_15 dX0_addSchool_17 dX0_addSchool_20 ht (Nat.le_of_ble_eq_true rfl) (Nat.le_of_ble_eq_true rfl) (Nat.le_of_ble_eq_true rfl) (Nat.le_of_ble_eq_true rfl) hlocks
  · refine lv_iload_n hx hb dX0_addSchool_5 rfl (lv_at hl 1 rfl) ?_
    refine lv_bipush (v := nI (9)) hx hb dX0_addSchool_6 (by decide) ?_
    refine lv_icmp_le (tgt := 21) hx hb dX0_addSchool_8 (by decide) (fun z => absurd z (ir_no (a := 1) (b := 9) hx0 (by omega) c_2 (by omega))) (fun c_8 => ?_)
    exact tx_throw hx hb hls hown hts hT tg0_IAE q_cl_X0_35 q_ie_IAE (show ((50 : Nat), "odds are 1 to 9") ∈ lw_strs by decide) tg1_IAE tg2_IAE tg3_IAE (hl.1.trans hml.symm) dX0_addSchool_11 dX0_addSchool_14 dX0_addSchool_15 dX0_addSchool_17 dX0_addSchool_20 ht (Nat.le_of_ble_eq_true rfl) (Nat.le_of_ble_eq_true rfl) (Nat.le_of_ble_eq_true rfl) (Nat.le_of_ble_eq_true rfl) hlocks
set_option maxHeartbeats 4000000 in
set_option maxRecDepth 100000 in
theorem c_X0_addSchool_x2 (l : Launch) (D : va_G) (κ : Nat → ClassId) (a : Nat → Nat) (v : VS) (hv : ok_v v) (hls : l.stackTraces = false) (t_ : Nat) (ht0 : 1 ≤ t_) (ht : t_ ≤ 9) (hz : vs_n v = 4 ∨ 0 < vs_t v) : Tx l yX0_addSchool cX0_addSchool 2 (some .int) 7 102 (Pt_ D (kt_ κ) (xw κ a v) [.ref (a 0), .int (nI (t_))]) "java/lang/IllegalStateException" := by
  refine tx_intro (own := RX0) (by decide +kernel) rfl (Nat.le_of_ble_eq_true rfl) ?_
  intro p e s m args below meth c ls hx hb hml hown hts hK hP hT ht hlocks hl
  have hl : lv_has ls 2 [(0, .ref (a 0)), (1, .int (nI (t_)))] := hl
  obtain ⟨hv1, hv2, hv3, hv4, hv5, hv6⟩ := id hv
  refine lv_iload_n hx hb dX0_addSchool_0 rfl (lv_at hl 1 rfl) ?_
  refine lv_iconst (v := nI (1)) hx hb dX0_addSchool_1 (by decide) ?_
  refine nv_icmp_lt (tgt := 11) hx hb dX0_addSchool_2 (by decide) (by omega) (by omega) (fun z => absurd z (by omega)) (fun c_2 => ?_)
  refine lv_iload_n hx hb dX0_addSchool_5 rfl (lv_at hl 1 rfl) ?_
  refine lv_bipush (v := nI (9)) hx hb dX0_addSchool_6 (by decide) ?_
  refine nv_icmp_le (tgt := 21) hx hb dX0_addSchool_8 (by decide) (by omega) (by omega) (fun c_8 => ?_) (fun z => absurd z (by omega))
  refine lv_aload_n hx hb dX0_addSchool_21 rfl (lv_at hl 0 rfl) ?_
  refine va_get (D := D) (ci := 0) (v := .int (nI (vs_n v))) (C := RX0) (T := TX0) (N := 7) hx hb hts i_X0 hown hK hP 0 rfl rfl 5 (by decide) (hts _ q_f_X0_29) (fun _ h9 => h9) rfl dX0_addSchool_22 ?_
  refine lv_iconst (v := nI (4)) hx hb dX0_addSchool_25 (by decide) ?_
  refine nv_icmp_lt (tgt := 39) hx hb dX0_addSchool_26 (by decide) (by omega) (by omega) (fun c_26 => ?_) (fun c_26 => ?_)
  · refine lv_aload_n hx hb dX0_addSchool_39 rfl (lv_at hl 0 rfl) ?_
    exact tx_V (rest := []) ⟨hx, hb, hml, hown, hts⟩ (c_X0_needNoTosses_x l D κ a v hv hls (by omega)) g_X0_47 n_X0_needNoTosses ⟨Nat.le_of_ble_eq_true rfl, Nat.le_of_ble_eq_true rfl⟩ hK hP hT rfl rfl rfl hl.1 rfl (Nat.le_of_ble_eq_true rfl) dX0_addSchool_40 ⟨Nat.le_of_ble_eq_true rfl, Nat.le_of_ble_eq_true rfl⟩ ht hlocks
  · exact tx_throw hx hb hls hown hts hT tg0_ISE q_cl_X0_42 q_ie_ISE (show ((52 : Nat), "there are 4 schools") ∈ lw_strs by decide) tg1_ISE tg2_ISE tg3_ISE (hl.1.trans hml.symm) dX0_addSchool_29 dX0_addSchool_32 dX0_addSchool_33 dX0_addSchool_35 dX0_addSchool_38 ht (Nat.le_of_ble_eq_true rfl) (Nat.le_of_ble_eq_true rfl) (Nat.le_of_ble_eq_true rfl) (Nat.le_of_ble_eq_true rfl) hlocks
set_option maxHeartbeats 4000000 in
set_option maxRecDepth 100000 in
theorem c_X0_setShare_x1 (l : Launch) (D : va_G) (κ : Nat → ClassId) (a : Nat → Nat) (v : VS) (hv : ok_v v) (hls : l.stackTraces = false) (x : Int32) (y : Int32) (z : Int32) (hx0 : ix_ x (vs_n v) = false) : Tx l yX0_setShare cX0_setShare 5 (some .int) 7 103 (Pt_ D (kt_ κ) (xw κ a v) [.ref (a 0), .int (x), .int (y), .int (z)]) "java/lang/IndexOutOfBoundsException" := by
  refine tx_intro (own := RX0) (by decide +kernel) rfl (Nat.le_of_ble_eq_true rfl) ?_
  intro p e s m args below meth c ls hx hb hml hown hts hK hP hT ht hlocks hl
  have hl : lv_has ls 5 [(0, .ref (a 0)), (1, .int (x)), (2, .int (y)), (3, .int (z))] := hl
  obtain ⟨hv1, hv2, hv3, hv4, hv5, hv6⟩ := id hv
  refine lv_aload_n hx hb dX0_setShare_0 rfl (lv_at hl 0 rfl) ?_
  refine lv_iload_n hx hb dX0_setShare_1 rfl (lv_at hl 1 rfl) ?_
  exact tx_V (rest := []) ⟨hx, hb, hml, hown, hts⟩ (c_X0_needSchool_x l D κ a v hv hls (x) (hx0)) g_X0_54 n_X0_needSchool ⟨Nat.le_of_ble_eq_true rfl, Nat.le_of_ble_eq_true rfl⟩ hK hP hT rfl rfl rfl hl.1 rfl (Nat.le_of_ble_eq_true rfl) dX0_setShare_2 ⟨Nat.le_of_ble_eq_true rfl, Nat.le_of_ble_eq_true rfl⟩ ht hlocks
set_option maxHeartbeats 4000000 in
set_option maxRecDepth 100000 in
theorem c_X0_setShare_x2 (l : Launch) (D : va_G) (κ : Nat → ClassId) (a : Nat → Nat) (v : VS) (hv : ok_v v) (hls : l.stackTraces = false) (s_ : Nat) (y : Int32) (z : Int32) (hs : s_ < vs_n v) (hx0 : ix_ y (vs_c v) = false) : Tx l yX0_setShare cX0_setShare 5 (some .int) 7 103 (Pt_ D (kt_ κ) (xw κ a v) [.ref (a 0), .int (nI (s_)), .int (y), .int (z)]) "java/lang/IndexOutOfBoundsException" := by
  refine tx_intro (own := RX0) (by decide +kernel) rfl (Nat.le_of_ble_eq_true rfl) ?_
  intro p e s m args below meth c ls hx hb hml hown hts hK hP hT ht hlocks hl
  have hl : lv_has ls 5 [(0, .ref (a 0)), (1, .int (nI (s_))), (2, .int (y)), (3, .int (z))] := hl
  obtain ⟨hv1, hv2, hv3, hv4, hv5, hv6⟩ := id hv
  refine lv_aload_n hx hb dX0_setShare_0 rfl (lv_at hl 0 rfl) ?_
  refine lv_iload_n hx hb dX0_setShare_1 rfl (lv_at hl 1 rfl) ?_
  refine rd_VN (rest := []) ⟨hx, hb, hml, hown, hts⟩ (c_X0_needSchool l D κ a v hv (s_) (by omega)) g_X0_54 n_X0_needSchool ⟨Nat.le_of_ble_eq_true rfl, Nat.le_of_ble_eq_true rfl⟩ hK hP rfl rfl rfl hl.1 rfl (Nat.le_of_ble_eq_true rfl) dX0_setShare_2 ⟨Nat.zero_le _, Nat.zero_le _⟩ ?_
  refine lv_aload_n hx hb dX0_setShare_5 rfl (lv_at hl 0 rfl) ?_
  refine lv_iload_n hx hb dX0_setShare_6 rfl (lv_at hl 2 rfl) ?_
  exact tx_V (rest := []) ⟨hx, hb, hml, hown, hts⟩ (c_X0_needCoin_x l D κ a v hv hls (y) (hx0)) g_X0_58 n_X0_needCoin ⟨Nat.le_of_ble_eq_true rfl, Nat.le_of_ble_eq_true rfl⟩ hK hP hT rfl rfl rfl hl.1 rfl (Nat.le_of_ble_eq_true rfl) dX0_setShare_7 ⟨Nat.le_of_ble_eq_true rfl, Nat.le_of_ble_eq_true rfl⟩ ht hlocks
set_option maxHeartbeats 4000000 in
set_option maxRecDepth 100000 in
theorem c_X0_setShare_x3 (l : Launch) (D : va_G) (κ : Nat → ClassId) (a : Nat → Nat) (v : VS) (hv : ok_v v) (hls : l.stackTraces = false) (s_ : Nat) (c_ : Nat) (z : Int32) (hs : s_ < vs_n v) (hc : c_ < vs_c v) (hx0 : ir_ z 0 9 = false) : Tx l yX0_setShare cX0_setShare 5 (some .int) 6 82 (Pt_ D (kt_ κ) (xw κ a v) [.ref (a 0), .int (nI (s_)), .int (nI (c_)), .int (z)]) "java/lang/IllegalArgumentException" := by
  refine tx_intro (own := RX0) (by decide +kernel) rfl (Nat.le_of_ble_eq_true rfl) ?_
  intro p e s m args below meth c ls hx hb hml hown hts hK hP hT ht hlocks hl
  have hl : lv_has ls 5 [(0, .ref (a 0)), (1, .int (nI (s_))), (2, .int (nI (c_))), (3, .int (z))] := hl
  obtain ⟨hv1, hv2, hv3, hv4, hv5, hv6⟩ := id hv
  refine lv_aload_n hx hb dX0_setShare_0 rfl (lv_at hl 0 rfl) ?_
  refine lv_iload_n hx hb dX0_setShare_1 rfl (lv_at hl 1 rfl) ?_
  refine rd_VN (rest := []) ⟨hx, hb, hml, hown, hts⟩ (c_X0_needSchool l D κ a v hv (s_) (by omega)) g_X0_54 n_X0_needSchool ⟨Nat.le_of_ble_eq_true rfl, Nat.le_of_ble_eq_true rfl⟩ hK hP rfl rfl rfl hl.1 rfl (Nat.le_of_ble_eq_true rfl) dX0_setShare_2 ⟨Nat.zero_le _, Nat.zero_le _⟩ ?_
  refine lv_aload_n hx hb dX0_setShare_5 rfl (lv_at hl 0 rfl) ?_
  refine lv_iload_n hx hb dX0_setShare_6 rfl (lv_at hl 2 rfl) ?_
  refine rd_VN (rest := []) ⟨hx, hb, hml, hown, hts⟩ (c_X0_needCoin l D κ a v hv (c_) (by omega)) g_X0_58 n_X0_needCoin ⟨Nat.le_of_ble_eq_true rfl, Nat.le_of_ble_eq_true rfl⟩ hK hP rfl rfl rfl hl.1 rfl (Nat.le_of_ble_eq_true rfl) dX0_setShare_7 ⟨Nat.zero_le _, Nat.zero_le _⟩ ?_
  refine lv_iload_n hx hb dX0_setShare_10 rfl (lv_at hl 3 rfl) ?_
  refine lv_if_lt (tgt := 20) hx hb dX0_setShare_11 (by decide) (fun c_11 => ?_) (fun c_11 => ?_)
  · exact tx_throw hx hb hls hown hts hT tg0_IAE q_cl_X0_35 q_ie_IAE (show ((61 : Nat), "a share is 0 to 9") ∈ lw_strs by decide) tg1_IAE tg2_IAE tg3_IAE (hl.1.trans hml.symm) dX0_setShare_20 dX0_setShare_23 dX0_setShare_24 dX0_setShare_26 dX0_setShare_29 ht (Nat.le_of_ble_eq_true rfl) (Nat.le_of_ble_eq_true rfl) (Nat.le_of_ble_eq_true rfl) (Nat.le_of_ble_eq_true rfl) hlocks
  · refine lv_iload_n hx hb dX0_setShare_14 rfl (lv_at hl 3 rfl) ?_
    refine lv_bipush (v := nI (9)) hx hb dX0_setShare_15 (by decide) ?_
    refine lv_icmp_le (tgt := 30) hx hb dX0_setShare_17 (by decide) (fun z => absurd z (ir_no (a := 0) (b := 9) hx0 (by omega) c_11 (by omega))) (fun c_17 => ?_)
    exact tx_throw hx hb hls hown hts hT tg0_IAE q_cl_X0_35 q_ie_IAE (show ((61 : Nat), "a share is 0 to 9") ∈ lw_strs by decide) tg1_IAE tg2_IAE tg3_IAE (hl.1.trans hml.symm) dX0_setShare_20 dX0_setShare_23 dX0_setShare_24 dX0_setShare_26 dX0_setShare_29 ht (Nat.le_of_ble_eq_true rfl) (Nat.le_of_ble_eq_true rfl) (Nat.le_of_ble_eq_true rfl) (Nat.le_of_ble_eq_true rfl) hlocks
set_option maxHeartbeats 4000000 in
set_option maxRecDepth 100000 in
theorem c_X0_setShare_x4 (l : Launch) (D : va_G) (κ : Nat → ClassId) (a : Nat → Nat) (v : VS) (hv : ok_v v) (hls : l.stackTraces = false) (s_ : Nat) (c_ : Nat) (x_ : Nat) (hs : s_ < vs_n v) (hc : c_ < vs_c v) (hx9 : x_ ≤ 9) (hz : 0 < vs_t v) : Tx l yX0_setShare cX0_setShare 5 (some .int) 7 102 (Pt_ D (kt_ κ) (xw κ a v) [.ref (a 0), .int (nI (s_)), .int (nI (c_)), .int (nI (x_))]) "java/lang/IllegalStateException" := by
  refine tx_intro (own := RX0) (by decide +kernel) rfl (Nat.le_of_ble_eq_true rfl) ?_
  intro p e s m args below meth c ls hx hb hml hown hts hK hP hT ht hlocks hl
  have hl : lv_has ls 5 [(0, .ref (a 0)), (1, .int (nI (s_))), (2, .int (nI (c_))), (3, .int (nI (x_)))] := hl
  obtain ⟨hv1, hv2, hv3, hv4, hv5, hv6⟩ := id hv
  refine lv_aload_n hx hb dX0_setShare_0 rfl (lv_at hl 0 rfl) ?_
  refine lv_iload_n hx hb dX0_setShare_1 rfl (lv_at hl 1 rfl) ?_
  refine rd_VN (rest := []) ⟨hx, hb, hml, hown, hts⟩ (c_X0_needSchool l D κ a v hv (s_) (by omega)) g_X0_54 n_X0_needSchool ⟨Nat.le_of_ble_eq_true rfl, Nat.le_of_ble_eq_true rfl⟩ hK hP rfl rfl rfl hl.1 rfl (Nat.le_of_ble_eq_true rfl) dX0_setShare_2 ⟨Nat.zero_le _, Nat.zero_le _⟩ ?_
  refine lv_aload_n hx hb dX0_setShare_5 rfl (lv_at hl 0 rfl) ?_
  refine lv_iload_n hx hb dX0_setShare_6 rfl (lv_at hl 2 rfl) ?_
  refine rd_VN (rest := []) ⟨hx, hb, hml, hown, hts⟩ (c_X0_needCoin l D κ a v hv (c_) (by omega)) g_X0_58 n_X0_needCoin ⟨Nat.le_of_ble_eq_true rfl, Nat.le_of_ble_eq_true rfl⟩ hK hP rfl rfl rfl hl.1 rfl (Nat.le_of_ble_eq_true rfl) dX0_setShare_7 ⟨Nat.zero_le _, Nat.zero_le _⟩ ?_
  refine lv_iload_n hx hb dX0_setShare_10 rfl (lv_at hl 3 rfl) ?_
  refine nv_if_lt (tgt := 20) hx hb dX0_setShare_11 (by decide) (by omega) ?_
  refine lv_iload_n hx hb dX0_setShare_14 rfl (lv_at hl 3 rfl) ?_
  refine lv_bipush (v := nI (9)) hx hb dX0_setShare_15 (by decide) ?_
  refine nv_icmp_le (tgt := 30) hx hb dX0_setShare_17 (by decide) (by omega) (by omega) (fun c_17 => ?_) (fun z => absurd z (by omega))
  refine lv_aload_n hx hb dX0_setShare_30 rfl (lv_at hl 0 rfl) ?_
  exact tx_V (rest := []) ⟨hx, hb, hml, hown, hts⟩ (c_X0_needNoTosses_x l D κ a v hv hls (by omega)) g_X0_47 n_X0_needNoTosses ⟨Nat.le_of_ble_eq_true rfl, Nat.le_of_ble_eq_true rfl⟩ hK hP hT rfl rfl rfl hl.1 rfl (Nat.le_of_ble_eq_true rfl) dX0_setShare_31 ⟨Nat.le_of_ble_eq_true rfl, Nat.le_of_ble_eq_true rfl⟩ ht hlocks
set_option maxHeartbeats 4000000 in
set_option maxRecDepth 100000 in
theorem c_X0_toss_x (l : Launch) (D : va_G) (κ : Nat → ClassId) (a : Nat → Nat) (v : VS) (hv : ok_v v) (hls : l.stackTraces = false) (h_ : Bool) (hz : vs_t v = 12 ∨ ch_ v h_ (hh_ v) (tt_ v) = 0) : Tx l yX0_toss cX0_toss 3 (some .int) 7 108 (Pt_ D (kt_ κ) (xw κ a v) [.ref (a 0), .int (bI (h_))]) "java/lang/IllegalStateException" := by
  refine tx_intro (own := RX0) (by decide +kernel) rfl (Nat.le_of_ble_eq_true rfl) ?_
  intro p e s m args below meth c ls hx hb hml hown hts hK hP hT ht hlocks hl
  have hl : lv_has ls 3 [(0, .ref (a 0)), (1, .int (bI (h_)))] := hl
  obtain ⟨hv1, hv2, hv3, hv4, hv5, hv6⟩ := id hv
  refine lv_aload_n hx hb dX0_toss_0 rfl (lv_at hl 0 rfl) ?_
  refine va_get (D := D) (ci := 0) (v := .int (nI (vs_t v))) (C := RX0) (T := TX0) (N := 7) hx hb hts i_X0 hown hK hP 0 rfl rfl 6 (by decide) (hts _ q_f_X0_32) (fun _ h9 => h9) rfl dX0_toss_1 ?_
  refine lv_bipush (v := nI (12)) hx hb dX0_toss_4 (by decide) ?_
  refine nv_icmp_lt (tgt := 19) hx hb dX0_toss_6 (by decide) (by omega) (by omega) (fun c_6 => ?_) (fun c_6 => ?_)
  · refine lv_aload_n hx hb dX0_toss_19 rfl (lv_at hl 0 rfl) ?_
    refine lv_iload_n hx hb dX0_toss_20 rfl (lv_at hl 1 rfl) ?_
    exact tx_V (rest := []) ⟨hx, hb, hml, hown, hts⟩ (c_X0_needPossible_x l D κ a v hv hls (h_) (hz.resolve_left (by omega))) g_X0_65 n_X0_needPossible ⟨Nat.le_of_ble_eq_true rfl, Nat.le_of_ble_eq_true rfl⟩ hK hP hT rfl rfl rfl hl.1 rfl (Nat.le_of_ble_eq_true rfl) dX0_toss_21 ⟨Nat.le_of_ble_eq_true rfl, Nat.le_of_ble_eq_true rfl⟩ ht hlocks
  · exact tx_throw hx hb hls hown hts hT tg0_ISE q_cl_X0_42 q_ie_ISE (show ((63 : Nat), "there are 12 tosses") ∈ lw_strs by decide) tg1_ISE tg2_ISE tg3_ISE (hl.1.trans hml.symm) dX0_toss_9 dX0_toss_12 dX0_toss_13 dX0_toss_15 dX0_toss_18 ht (Nat.le_of_ble_eq_true rfl) (Nat.le_of_ble_eq_true rfl) (Nat.le_of_ble_eq_true rfl) (Nat.le_of_ble_eq_true rfl) hlocks
set_option maxHeartbeats 4000000 in
set_option maxRecDepth 100000 in
theorem c_X0_undo_x (l : Launch) (D : va_G) (κ : Nat → ClassId) (a : Nat → Nat) (v : VS) (hv : ok_v v) (hls : l.stackTraces = false) (hz : vs_t v = 0) : Tx l yX0_undo cX0_undo 1 (some .boolean) 6 82 (Pt_ D (kt_ κ) (xw κ a v) [.ref (a 0)]) "java/lang/IllegalStateException" := by
  refine tx_intro (own := RX0) (by decide +kernel) rfl (Nat.le_of_ble_eq_true rfl) ?_
  intro p e s m args below meth c ls hx hb hml hown hts hK hP hT ht hlocks hl
  have hl : lv_has ls 1 [(0, .ref (a 0))] := hl
  obtain ⟨hv1, hv2, hv3, hv4, hv5, hv6⟩ := id hv
  refine lv_aload_n hx hb dX0_undo_0 rfl (lv_at hl 0 rfl) ?_
  refine va_get (D := D) (ci := 0) (v := .int (nI (vs_t v))) (C := RX0) (T := TX0) (N := 7) hx hb hts i_X0 hown hK hP 0 rfl rfl 6 (by decide) (hts _ q_f_X0_32) (fun _ h9 => h9) rfl dX0_undo_1 ?_
  refine nv_if_gt (tgt := 17) hx hb dX0_undo_4 (by decide) (by omega) (fun z => absurd z (by omega)) (fun c_4 => ?_)
  exact tx_throw hx hb hls hown hts hT tg0_ISE q_cl_X0_42 q_ie_ISE (show ((80 : Nat), "there are no tosses") ∈ lw_strs by decide) tg1_ISE tg2_ISE tg3_ISE (hl.1.trans hml.symm) dX0_undo_7 dX0_undo_10 dX0_undo_11 dX0_undo_13 dX0_undo_16 ht (Nat.le_of_ble_eq_true rfl) (Nat.le_of_ble_eq_true rfl) (Nat.le_of_ble_eq_true rfl) (Nat.le_of_ble_eq_true rfl) hlocks
set_option maxHeartbeats 4000000 in
set_option maxRecDepth 100000 in
theorem c_X0_strike_x (l : Launch) (D : va_G) (κ : Nat → ClassId) (a : Nat → Nat) (v : VS) (hv : ok_v v) (hls : l.stackTraces = false) (x : Int32) (hx0 : ix_ x (vs_t v) = false) : Tx l yX0_strike cX0_strike 3 (some .int) 7 103 (Pt_ D (kt_ κ) (xw κ a v) [.ref (a 0), .int (x)]) "java/lang/IndexOutOfBoundsException" := by
  refine tx_intro (own := RX0) (by decide +kernel) rfl (Nat.le_of_ble_eq_true rfl) ?_
  intro p e s m args below meth c ls hx hb hml hown hts hK hP hT ht hlocks hl
  have hl : lv_has ls 3 [(0, .ref (a 0)), (1, .int (x))] := hl
  obtain ⟨hv1, hv2, hv3, hv4, hv5, hv6⟩ := id hv
  refine lv_aload_n hx hb dX0_strike_0 rfl (lv_at hl 0 rfl) ?_
  refine lv_iload_n hx hb dX0_strike_1 rfl (lv_at hl 1 rfl) ?_
  exact tx_V (rest := []) ⟨hx, hb, hml, hown, hts⟩ (c_X0_needToss_x l D κ a v hv hls (x) (hx0)) g_X0_82 n_X0_needToss ⟨Nat.le_of_ble_eq_true rfl, Nat.le_of_ble_eq_true rfl⟩ hK hP hT rfl rfl rfl hl.1 rfl (Nat.le_of_ble_eq_true rfl) dX0_strike_2 ⟨Nat.le_of_ble_eq_true rfl, Nat.le_of_ble_eq_true rfl⟩ ht hlocks
