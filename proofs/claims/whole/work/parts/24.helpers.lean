theorem Thr_of {U : State} (h : ThL (fun _ => False) U) : Thr U := h.1
set_option maxHeartbeats 4000000 in
set_option maxRecDepth 100000 in
theorem h_addCoin_x1 (l : Launch) (D : va_G) (κ : Nat → ClassId) (a : Nat → Nat) (v : VS) (hv : ok_v v) (hap : ap_ a 9) (hls : l.stackTraces = false) (o : Nat) (hoa : ¬ xa_ a o) (w : Nat → Int64) (r9 : Int64) (x : Int32) (hx0 : ir_ x 0 10 = false) : Hp l yL_addCoin cL_addCoin 4 [(0, 9, 12, 13), (0, 9, 15, 15)] 8 123 (Ph_ D κ a v (ol_ κ o w) [.ref (a 0), .int (x), .ref (o)]) D κ a o v 1 (Pl_ D κ o 1 (r9)) := by
  refine hp_intro (by decide +kernel) rfl (Nat.le_of_ble_eq_true rfl) ?_
  intro p e s m args below meth c ls Qq hx hb hml hown hts hK hKx hPx hPo hS hT htab hend hl
  have hl : lv_has ls 4 [(0, .ref (a 0)), (1, .int (x)), (2, .ref (o))] := hl
  refine lv_aload_n hx hb dL_addCoin_0 rfl (lv_at hl 2 rfl) ?_
  refine lv_iconst (v := nI (0)) hx hb dL_addCoin_1 (by decide) ?_
  refine lv_aload_n hx hb dL_addCoin_2 rfl (lv_at hl 0 rfl) ?_
  refine lv_iload_n hx hb dL_addCoin_3 rfl (lv_at hl 1 rfl) ?_
  refine tx_catch (rest := [.int (nI (0)), .ref (o)]) ⟨hx, hb, hml, hown, hts⟩ (c_X0_addCoin_x1 l D κ a v hv hls (x) (hx0)) g_L_7 n_X0_addCoin ⟨Nat.le_of_ble_eq_true rfl, Nat.le_of_ble_eq_true rfl⟩ hKx hPx (Thr_of hT) rfl rfl rfl hl.1 rfl (Nat.le_of_ble_eq_true rfl) dL_addCoin_4 ⟨Nat.le_of_ble_eq_true rfl, Nat.le_of_ble_eq_true rfl⟩ [] ⟨0, 9, 12, 13⟩ [⟨0, 9, 15, 15⟩] htab (fun z hz => absurd hz List.not_mem_nil) (by decide) (by decide) (hts _ q_cl_L_13) q_face_IAE (fun q9 H hz hk => ?_)
  have hPx : va_P D vwCl (xw κ a v) H := xw_kept hPx hk
  have hPo : va_P D vwCl (ol_ κ o w) H := xw_kept hPo hk
  have hS : va_S (xo_ a o) s.heap H [] := ⟨hz, fun q h1 _ => hk q h1, fun _ h => absurd h List.not_mem_nil⟩
  refine lv_astore_n (lv' := [(3, .ref (q9)), (0, .ref (a 0)), (1, .int (x)), (2, .ref (o))]) hx hb dL_addCoin_12 rfl hl (by decide) rfl (fun ls hl => ?_)
  refine lv_iconst (v := nI (1)) hx hb dL_addCoin_13 (by decide) ?_
  exact hend _ _ _ _ _ _ (by decide) (by decide) dL_addCoin_14 hPx ⟨_, hPo, fun z => absurd z (by decide)⟩ hS
set_option maxHeartbeats 4000000 in
set_option maxRecDepth 100000 in
theorem h_addCoin_x2 (l : Launch) (D : va_G) (κ : Nat → ClassId) (a : Nat → Nat) (v : VS) (hv : ok_v v) (hap : ap_ a 9) (hls : l.stackTraces = false) (o : Nat) (hoa : ¬ xa_ a o) (w : Nat → Int64) (r9 : Int64) (t_ : Nat) (ht : t_ ≤ 10) (hz : vs_c v = 8 ∨ 0 < vs_t v) : Hp l yL_addCoin cL_addCoin 4 [(0, 9, 12, 13), (0, 9, 15, 15)] 8 123 (Ph_ D κ a v (ol_ κ o w) [.ref (a 0), .int (nI (t_)), .ref (o)]) D κ a o v 2 (Pl_ D κ o 2 (r9)) := by
  refine hp_intro (by decide +kernel) rfl (Nat.le_of_ble_eq_true rfl) ?_
  intro p e s m args below meth c ls Qq hx hb hml hown hts hK hKx hPx hPo hS hT htab hend hl
  have hl : lv_has ls 4 [(0, .ref (a 0)), (1, .int (nI (t_))), (2, .ref (o))] := hl
  refine lv_aload_n hx hb dL_addCoin_0 rfl (lv_at hl 2 rfl) ?_
  refine lv_iconst (v := nI (0)) hx hb dL_addCoin_1 (by decide) ?_
  refine lv_aload_n hx hb dL_addCoin_2 rfl (lv_at hl 0 rfl) ?_
  refine lv_iload_n hx hb dL_addCoin_3 rfl (lv_at hl 1 rfl) ?_
  refine tx_catch (rest := [.int (nI (0)), .ref (o)]) ⟨hx, hb, hml, hown, hts⟩ (c_X0_addCoin_x2 l D κ a v hv hls (t_) (ht) (hz)) g_L_7 n_X0_addCoin ⟨Nat.le_of_ble_eq_true rfl, Nat.le_of_ble_eq_true rfl⟩ hKx hPx (Thr_of hT) rfl rfl rfl hl.1 rfl (Nat.le_of_ble_eq_true rfl) dL_addCoin_4 ⟨Nat.le_of_ble_eq_true rfl, Nat.le_of_ble_eq_true rfl⟩ [⟨0, 9, 12, 13⟩] ⟨0, 9, 15, 15⟩ [] htab (fun z hz => by rw [List.mem_singleton] at hz; subst hz; exact Or.inr ⟨by decide, _, hts _ q_cl_L_13, hT.2.1⟩) (by decide) (by decide) (hts _ q_cl_L_15) q_face_ISE (fun q9 H hz hk => ?_)
  have hPx : va_P D vwCl (xw κ a v) H := xw_kept hPx hk
  have hPo : va_P D vwCl (ol_ κ o w) H := xw_kept hPo hk
  have hS : va_S (xo_ a o) s.heap H [] := ⟨hz, fun q h1 _ => hk q h1, fun _ h => absurd h List.not_mem_nil⟩
  refine lv_astore_n (lv' := [(3, .ref (q9)), (0, .ref (a 0)), (1, .int (nI (t_))), (2, .ref (o))]) hx hb dL_addCoin_15 rfl hl (by decide) rfl (fun ls hl => ?_)
  refine lv_iconst (v := nI (2)) hx hb dL_addCoin_16 (by decide) ?_
  exact hend _ _ _ _ _ _ (by decide) (by decide) dL_addCoin_17 hPx ⟨_, hPo, fun z => absurd z (by decide)⟩ hS
set_option maxHeartbeats 4000000 in
set_option maxRecDepth 100000 in
theorem h_addCoin_ok (l : Launch) (D : va_G) (κ : Nat → ClassId) (a : Nat → Nat) (v : VS) (hv : ok_v v) (hap : ap_ a 9) (hls : l.stackTraces = false) (o : Nat) (hoa : ¬ xa_ a o) (w : Nat → Int64) (t_ : Nat) (ht : t_ ≤ 10) (hc8 : vs_c v < 8) (h0 : vs_t v = 0) : Hp l yL_addCoin cL_addCoin 4 [(0, 9, 12, 13), (0, 9, 15, 15)] 8 123 (Ph_ D κ a v (ol_ κ o w) [.ref (a 0), .int (nI (t_)), .ref (o)]) D κ a o (nx_addCoin v t_) 0 (Pl_ D κ o 0 ((nI (vs_c v)).toInt64)) := by
  refine hp_intro (by decide +kernel) rfl (Nat.le_of_ble_eq_true rfl) ?_
  intro p e s m args below meth c ls Qq hx hb hml hown hts hK hKx hPx hPo hS hT htab hend hl
  have hl : lv_has ls 4 [(0, .ref (a 0)), (1, .int (nI (t_))), (2, .ref (o))] := hl
  obtain ⟨hv1, hv2, hv3, hv4, hv5, hv6⟩ := id hv
  refine lv_aload_n hx hb dL_addCoin_0 rfl (lv_at hl 2 rfl) ?_
  refine lv_iconst (v := nI (0)) hx hb dL_addCoin_1 (by decide) ?_
  refine lv_aload_n hx hb dL_addCoin_2 rfl (lv_at hl 0 rfl) ?_
  refine lv_iload_n hx hb dL_addCoin_3 rfl (lv_at hl 1 rfl) ?_
  refine wr_V (rest := [.int (nI (0)), .ref (o)]) ⟨hx, hb, hml, hown, hts⟩ (c_X0_addCoin l D κ a v hv hap (t_) (ht) (hc8) (h0)) g_L_7 n_X0_addCoin ⟨Nat.le_of_ble_eq_true rfl, Nat.le_of_ble_eq_true rfl⟩ hKx hPx rfl rfl rfl hl.1 rfl (Nat.le_of_ble_eq_true rfl) dL_addCoin_4 ⟨Nat.zero_le _, Nat.zero_le _⟩ hS (fun _ h => Or.inl h) (fun H locs hPx hS _ hk => ?_)
  have hPo : va_P D vwCl (ol_ κ o w) H := ol_kept hPo hoa hk
  refine lv_i2l (v := (nI (vs_c v)).toInt64) hx hb dL_addCoin_7 rfl ?_
  refine hp_store hx hb hK hPx hPo hap hoa hS dL_addCoin_8 (fun H locs hPx hPo hS => ?_)
  refine lv_goto (tgt := 18) hx hb dL_addCoin_9 (by decide) ?_
  refine lv_iconst (v := nI (0)) hx hb dL_addCoin_18 (by decide) ?_
  exact hend _ _ _ _ _ _ (by decide) (by decide) dL_addCoin_19 hPx ⟨_, hPo, fun _ => rfl⟩ hS
set_option maxHeartbeats 4000000 in
set_option maxRecDepth 100000 in
theorem h_addSchool_x1 (l : Launch) (D : va_G) (κ : Nat → ClassId) (a : Nat → Nat) (v : VS) (hv : ok_v v) (hap : ap_ a 9) (hls : l.stackTraces = false) (o : Nat) (hoa : ¬ xa_ a o) (w : Nat → Int64) (r9 : Int64) (x : Int32) (hx0 : ir_ x 1 9 = false) : Hp l yL_addSchool cL_addSchool 4 [(0, 9, 12, 13), (0, 9, 15, 15)] 8 123 (Ph_ D κ a v (ol_ κ o w) [.ref (a 0), .int (x), .ref (o)]) D κ a o v 1 (Pl_ D κ o 1 (r9)) := by
  refine hp_intro (by decide +kernel) rfl (Nat.le_of_ble_eq_true rfl) ?_
  intro p e s m args below meth c ls Qq hx hb hml hown hts hK hKx hPx hPo hS hT htab hend hl
  have hl : lv_has ls 4 [(0, .ref (a 0)), (1, .int (x)), (2, .ref (o))] := hl
  refine lv_aload_n hx hb dL_addSchool_0 rfl (lv_at hl 2 rfl) ?_
  refine lv_iconst (v := nI (0)) hx hb dL_addSchool_1 (by decide) ?_
  refine lv_aload_n hx hb dL_addSchool_2 rfl (lv_at hl 0 rfl) ?_
  refine lv_iload_n hx hb dL_addSchool_3 rfl (lv_at hl 1 rfl) ?_
  refine tx_catch (rest := [.int (nI (0)), .ref (o)]) ⟨hx, hb, hml, hown, hts⟩ (c_X0_addSchool_x1 l D κ a v hv hls (x) (hx0)) g_L_17 n_X0_addSchool ⟨Nat.le_of_ble_eq_true rfl, Nat.le_of_ble_eq_true rfl⟩ hKx hPx (Thr_of hT) rfl rfl rfl hl.1 rfl (Nat.le_of_ble_eq_true rfl) dL_addSchool_4 ⟨Nat.le_of_ble_eq_true rfl, Nat.le_of_ble_eq_true rfl⟩ [] ⟨0, 9, 12, 13⟩ [⟨0, 9, 15, 15⟩] htab (fun z hz => absurd hz List.not_mem_nil) (by decide) (by decide) (hts _ q_cl_L_13) q_face_IAE (fun q9 H hz hk => ?_)
  have hPx : va_P D vwCl (xw κ a v) H := xw_kept hPx hk
  have hPo : va_P D vwCl (ol_ κ o w) H := xw_kept hPo hk
  have hS : va_S (xo_ a o) s.heap H [] := ⟨hz, fun q h1 _ => hk q h1, fun _ h => absurd h List.not_mem_nil⟩
  refine lv_astore_n (lv' := [(3, .ref (q9)), (0, .ref (a 0)), (1, .int (x)), (2, .ref (o))]) hx hb dL_addSchool_12 rfl hl (by decide) rfl (fun ls hl => ?_)
  refine lv_iconst (v := nI (1)) hx hb dL_addSchool_13 (by decide) ?_
  exact hend _ _ _ _ _ _ (by decide) (by decide) dL_addSchool_14 hPx ⟨_, hPo, fun z => absurd z (by decide)⟩ hS
set_option maxHeartbeats 4000000 in
set_option maxRecDepth 100000 in
theorem h_addSchool_x2 (l : Launch) (D : va_G) (κ : Nat → ClassId) (a : Nat → Nat) (v : VS) (hv : ok_v v) (hap : ap_ a 9) (hls : l.stackTraces = false) (o : Nat) (hoa : ¬ xa_ a o) (w : Nat → Int64) (r9 : Int64) (t_ : Nat) (ht0 : 1 ≤ t_) (ht : t_ ≤ 9) (hz : vs_n v = 4 ∨ 0 < vs_t v) : Hp l yL_addSchool cL_addSchool 4 [(0, 9, 12, 13), (0, 9, 15, 15)] 8 123 (Ph_ D κ a v (ol_ κ o w) [.ref (a 0), .int (nI (t_)), .ref (o)]) D κ a o v 2 (Pl_ D κ o 2 (r9)) := by
  refine hp_intro (by decide +kernel) rfl (Nat.le_of_ble_eq_true rfl) ?_
  intro p e s m args below meth c ls Qq hx hb hml hown hts hK hKx hPx hPo hS hT htab hend hl
  have hl : lv_has ls 4 [(0, .ref (a 0)), (1, .int (nI (t_))), (2, .ref (o))] := hl
  refine lv_aload_n hx hb dL_addSchool_0 rfl (lv_at hl 2 rfl) ?_
  refine lv_iconst (v := nI (0)) hx hb dL_addSchool_1 (by decide) ?_
  refine lv_aload_n hx hb dL_addSchool_2 rfl (lv_at hl 0 rfl) ?_
  refine lv_iload_n hx hb dL_addSchool_3 rfl (lv_at hl 1 rfl) ?_
  refine tx_catch (rest := [.int (nI (0)), .ref (o)]) ⟨hx, hb, hml, hown, hts⟩ (c_X0_addSchool_x2 l D κ a v hv hls (t_) (ht0) (ht) (hz)) g_L_17 n_X0_addSchool ⟨Nat.le_of_ble_eq_true rfl, Nat.le_of_ble_eq_true rfl⟩ hKx hPx (Thr_of hT) rfl rfl rfl hl.1 rfl (Nat.le_of_ble_eq_true rfl) dL_addSchool_4 ⟨Nat.le_of_ble_eq_true rfl, Nat.le_of_ble_eq_true rfl⟩ [⟨0, 9, 12, 13⟩] ⟨0, 9, 15, 15⟩ [] htab (fun z hz => by rw [List.mem_singleton] at hz; subst hz; exact Or.inr ⟨by decide, _, hts _ q_cl_L_13, hT.2.1⟩) (by decide) (by decide) (hts _ q_cl_L_15) q_face_ISE (fun q9 H hz hk => ?_)
  have hPx : va_P D vwCl (xw κ a v) H := xw_kept hPx hk
  have hPo : va_P D vwCl (ol_ κ o w) H := xw_kept hPo hk
  have hS : va_S (xo_ a o) s.heap H [] := ⟨hz, fun q h1 _ => hk q h1, fun _ h => absurd h List.not_mem_nil⟩
  refine lv_astore_n (lv' := [(3, .ref (q9)), (0, .ref (a 0)), (1, .int (nI (t_))), (2, .ref (o))]) hx hb dL_addSchool_15 rfl hl (by decide) rfl (fun ls hl => ?_)
  refine lv_iconst (v := nI (2)) hx hb dL_addSchool_16 (by decide) ?_
  exact hend _ _ _ _ _ _ (by decide) (by decide) dL_addSchool_17 hPx ⟨_, hPo, fun z => absurd z (by decide)⟩ hS
set_option maxHeartbeats 4000000 in
set_option maxRecDepth 100000 in
theorem h_addSchool_ok (l : Launch) (D : va_G) (κ : Nat → ClassId) (a : Nat → Nat) (v : VS) (hv : ok_v v) (hap : ap_ a 9) (hls : l.stackTraces = false) (o : Nat) (hoa : ¬ xa_ a o) (w : Nat → Int64) (t_ : Nat) (ht0 : 1 ≤ t_) (ht : t_ ≤ 9) (hc8 : vs_n v < 4) (h0 : vs_t v = 0) : Hp l yL_addSchool cL_addSchool 4 [(0, 9, 12, 13), (0, 9, 15, 15)] 8 123 (Ph_ D κ a v (ol_ κ o w) [.ref (a 0), .int (nI (t_)), .ref (o)]) D κ a o (nx_addSchool v t_) 0 (Pl_ D κ o 0 ((nI (vs_n v)).toInt64)) := by
  refine hp_intro (by decide +kernel) rfl (Nat.le_of_ble_eq_true rfl) ?_
  intro p e s m args below meth c ls Qq hx hb hml hown hts hK hKx hPx hPo hS hT htab hend hl
  have hl : lv_has ls 4 [(0, .ref (a 0)), (1, .int (nI (t_))), (2, .ref (o))] := hl
  obtain ⟨hv1, hv2, hv3, hv4, hv5, hv6⟩ := id hv
  refine lv_aload_n hx hb dL_addSchool_0 rfl (lv_at hl 2 rfl) ?_
  refine lv_iconst (v := nI (0)) hx hb dL_addSchool_1 (by decide) ?_
  refine lv_aload_n hx hb dL_addSchool_2 rfl (lv_at hl 0 rfl) ?_
  refine lv_iload_n hx hb dL_addSchool_3 rfl (lv_at hl 1 rfl) ?_
  refine wr_V (rest := [.int (nI (0)), .ref (o)]) ⟨hx, hb, hml, hown, hts⟩ (c_X0_addSchool l D κ a v hv hap (t_) (ht0) (ht) (hc8) (h0)) g_L_17 n_X0_addSchool ⟨Nat.le_of_ble_eq_true rfl, Nat.le_of_ble_eq_true rfl⟩ hKx hPx rfl rfl rfl hl.1 rfl (Nat.le_of_ble_eq_true rfl) dL_addSchool_4 ⟨Nat.zero_le _, Nat.zero_le _⟩ hS (fun _ h => Or.inl h) (fun H locs hPx hS _ hk => ?_)
  have hPo : va_P D vwCl (ol_ κ o w) H := ol_kept hPo hoa hk
  refine lv_i2l (v := (nI (vs_n v)).toInt64) hx hb dL_addSchool_7 rfl ?_
  refine hp_store hx hb hK hPx hPo hap hoa hS dL_addSchool_8 (fun H locs hPx hPo hS => ?_)
  refine lv_goto (tgt := 18) hx hb dL_addSchool_9 (by decide) ?_
  refine lv_iconst (v := nI (0)) hx hb dL_addSchool_18 (by decide) ?_
  exact hend _ _ _ _ _ _ (by decide) (by decide) dL_addSchool_19 hPx ⟨_, hPo, fun _ => rfl⟩ hS
set_option maxHeartbeats 4000000 in
set_option maxRecDepth 100000 in
theorem h_setShare_x1 (l : Launch) (D : va_G) (κ : Nat → ClassId) (a : Nat → Nat) (v : VS) (hv : ok_v v) (hap : ap_ a 9) (hls : l.stackTraces = false) (o : Nat) (hoa : ¬ xa_ a o) (w : Nat → Int64) (r9 : Int64) (x : Int32) (y : Int32) (z : Int32) (hx0 : ix_ x (vs_n v) = false) : Hp l yL_setShare cL_setShare 6 [(0, 12, 15, 24), (0, 12, 19, 13), (0, 12, 23, 15)] 8 127 (Ph_ D κ a v (ol_ κ o w) [.ref (a 0), .int (x), .int (y), .int (z), .ref (o)]) D κ a o v 1 (Pl_ D κ o 1 (r9)) := by
  refine hp_intro (by decide +kernel) rfl (Nat.le_of_ble_eq_true rfl) ?_
  intro p e s m args below meth c ls Qq hx hb hml hown hts hK hKx hPx hPo hS hT htab hend hl
  have hl : lv_has ls 6 [(0, .ref (a 0)), (1, .int (x)), (2, .int (y)), (3, .int (z)), (4, .ref (o))] := hl
  refine lv_aload hx hb dL_setShare_0 (lv_at hl 4 rfl) ?_
  refine lv_iconst (v := nI (0)) hx hb dL_setShare_2 (by decide) ?_
  refine lv_aload_n hx hb dL_setShare_3 rfl (lv_at hl 0 rfl) ?_
  refine lv_iload_n hx hb dL_setShare_4 rfl (lv_at hl 1 rfl) ?_
  refine lv_iload_n hx hb dL_setShare_5 rfl (lv_at hl 2 rfl) ?_
  refine lv_iload_n hx hb dL_setShare_6 rfl (lv_at hl 3 rfl) ?_
  refine tx_catch (rest := [.int (nI (0)), .ref (o)]) ⟨hx, hb, hml, hown, hts⟩ (c_X0_setShare_x1 l D κ a v hv hls (x) (y) (z) (hx0)) g_L_20 n_X0_setShare ⟨Nat.le_of_ble_eq_true rfl, Nat.le_of_ble_eq_true rfl⟩ hKx hPx (Thr_of hT) rfl rfl rfl hl.1 rfl (Nat.le_of_ble_eq_true rfl) dL_setShare_7 ⟨Nat.le_of_ble_eq_true rfl, Nat.le_of_ble_eq_true rfl⟩ [] ⟨0, 12, 15, 24⟩ [⟨0, 12, 19, 13⟩, ⟨0, 12, 23, 15⟩] htab (fun z hz => absurd hz List.not_mem_nil) (by decide) (by decide) (hts _ q_cl_L_24) q_face_IOB (fun q9 H hz hk => ?_)
  have hPx : va_P D vwCl (xw κ a v) H := xw_kept hPx hk
  have hPo : va_P D vwCl (ol_ κ o w) H := xw_kept hPo hk
  have hS : va_S (xo_ a o) s.heap H [] := ⟨hz, fun q h1 _ => hk q h1, fun _ h => absurd h List.not_mem_nil⟩
  refine lv_astore (lv' := [(5, .ref (q9)), (0, .ref (a 0)), (1, .int (x)), (2, .int (y)), (3, .int (z)), (4, .ref (o))]) hx hb dL_setShare_15 hl (by decide) rfl (fun ls hl => ?_)
  refine lv_iconst (v := nI (1)) hx hb dL_setShare_17 (by decide) ?_
  exact hend _ _ _ _ _ _ (by decide) (by decide) dL_setShare_18 hPx ⟨_, hPo, fun z => absurd z (by decide)⟩ hS
set_option maxHeartbeats 4000000 in
set_option maxRecDepth 100000 in
theorem h_setShare_x2 (l : Launch) (D : va_G) (κ : Nat → ClassId) (a : Nat → Nat) (v : VS) (hv : ok_v v) (hap : ap_ a 9) (hls : l.stackTraces = false) (o : Nat) (hoa : ¬ xa_ a o) (w : Nat → Int64) (r9 : Int64) (s_ : Nat) (y : Int32) (z : Int32) (hs : s_ < vs_n v) (hx0 : ix_ y (vs_c v) = false) : Hp l yL_setShare cL_setShare 6 [(0, 12, 15, 24), (0, 12, 19, 13), (0, 12, 23, 15)] 8 127 (Ph_ D κ a v (ol_ κ o w) [.ref (a 0), .int (nI (s_)), .int (y), .int (z), .ref (o)]) D κ a o v 1 (Pl_ D κ o 1 (r9)) := by
  refine hp_intro (by decide +kernel) rfl (Nat.le_of_ble_eq_true rfl) ?_
  intro p e s m args below meth c ls Qq hx hb hml hown hts hK hKx hPx hPo hS hT htab hend hl
  have hl : lv_has ls 6 [(0, .ref (a 0)), (1, .int (nI (s_))), (2, .int (y)), (3, .int (z)), (4, .ref (o))] := hl
  refine lv_aload hx hb dL_setShare_0 (lv_at hl 4 rfl) ?_
  refine lv_iconst (v := nI (0)) hx hb dL_setShare_2 (by decide) ?_
  refine lv_aload_n hx hb dL_setShare_3 rfl (lv_at hl 0 rfl) ?_
  refine lv_iload_n hx hb dL_setShare_4 rfl (lv_at hl 1 rfl) ?_
  refine lv_iload_n hx hb dL_setShare_5 rfl (lv_at hl 2 rfl) ?_
  refine lv_iload_n hx hb dL_setShare_6 rfl (lv_at hl 3 rfl) ?_
  refine tx_catch (rest := [.int (nI (0)), .ref (o)]) ⟨hx, hb, hml, hown, hts⟩ (c_X0_setShare_x2 l D κ a v hv hls (s_) (y) (z) (hs) (hx0)) g_L_20 n_X0_setShare ⟨Nat.le_of_ble_eq_true rfl, Nat.le_of_ble_eq_true rfl⟩ hKx hPx (Thr_of hT) rfl rfl rfl hl.1 rfl (Nat.le_of_ble_eq_true rfl) dL_setShare_7 ⟨Nat.le_of_ble_eq_true rfl, Nat.le_of_ble_eq_true rfl⟩ [] ⟨0, 12, 15, 24⟩ [⟨0, 12, 19, 13⟩, ⟨0, 12, 23, 15⟩] htab (fun z hz => absurd hz List.not_mem_nil) (by decide) (by decide) (hts _ q_cl_L_24) q_face_IOB (fun q9 H hz hk => ?_)
  have hPx : va_P D vwCl (xw κ a v) H := xw_kept hPx hk
  have hPo : va_P D vwCl (ol_ κ o w) H := xw_kept hPo hk
  have hS : va_S (xo_ a o) s.heap H [] := ⟨hz, fun q h1 _ => hk q h1, fun _ h => absurd h List.not_mem_nil⟩
  refine lv_astore (lv' := [(5, .ref (q9)), (0, .ref (a 0)), (1, .int (nI (s_))), (2, .int (y)), (3, .int (z)), (4, .ref (o))]) hx hb dL_setShare_15 hl (by decide) rfl (fun ls hl => ?_)
  refine lv_iconst (v := nI (1)) hx hb dL_setShare_17 (by decide) ?_
  exact hend _ _ _ _ _ _ (by decide) (by decide) dL_setShare_18 hPx ⟨_, hPo, fun z => absurd z (by decide)⟩ hS
set_option maxHeartbeats 4000000 in
set_option maxRecDepth 100000 in
theorem h_setShare_x3 (l : Launch) (D : va_G) (κ : Nat → ClassId) (a : Nat → Nat) (v : VS) (hv : ok_v v) (hap : ap_ a 9) (hls : l.stackTraces = false) (o : Nat) (hoa : ¬ xa_ a o) (w : Nat → Int64) (r9 : Int64) (s_ : Nat) (c_ : Nat) (z : Int32) (hs : s_ < vs_n v) (hc : c_ < vs_c v) (hx0 : ir_ z 0 9 = false) : Hp l yL_setShare cL_setShare 6 [(0, 12, 15, 24), (0, 12, 19, 13), (0, 12, 23, 15)] 8 127 (Ph_ D κ a v (ol_ κ o w) [.ref (a 0), .int (nI (s_)), .int (nI (c_)), .int (z), .ref (o)]) D κ a o v 2 (Pl_ D κ o 2 (r9)) := by
  refine hp_intro (by decide +kernel) rfl (Nat.le_of_ble_eq_true rfl) ?_
  intro p e s m args below meth c ls Qq hx hb hml hown hts hK hKx hPx hPo hS hT htab hend hl
  have hl : lv_has ls 6 [(0, .ref (a 0)), (1, .int (nI (s_))), (2, .int (nI (c_))), (3, .int (z)), (4, .ref (o))] := hl
  refine lv_aload hx hb dL_setShare_0 (lv_at hl 4 rfl) ?_
  refine lv_iconst (v := nI (0)) hx hb dL_setShare_2 (by decide) ?_
  refine lv_aload_n hx hb dL_setShare_3 rfl (lv_at hl 0 rfl) ?_
  refine lv_iload_n hx hb dL_setShare_4 rfl (lv_at hl 1 rfl) ?_
  refine lv_iload_n hx hb dL_setShare_5 rfl (lv_at hl 2 rfl) ?_
  refine lv_iload_n hx hb dL_setShare_6 rfl (lv_at hl 3 rfl) ?_
  refine tx_catch (rest := [.int (nI (0)), .ref (o)]) ⟨hx, hb, hml, hown, hts⟩ (c_X0_setShare_x3 l D κ a v hv hls (s_) (c_) (z) (hs) (hc) (hx0)) g_L_20 n_X0_setShare ⟨Nat.le_of_ble_eq_true rfl, Nat.le_of_ble_eq_true rfl⟩ hKx hPx (Thr_of hT) rfl rfl rfl hl.1 rfl (Nat.le_of_ble_eq_true rfl) dL_setShare_7 ⟨Nat.le_of_ble_eq_true rfl, Nat.le_of_ble_eq_true rfl⟩ [⟨0, 12, 15, 24⟩] ⟨0, 12, 19, 13⟩ [⟨0, 12, 23, 15⟩] htab (fun z hz => by rw [List.mem_singleton] at hz; subst hz; exact Or.inr ⟨by decide, _, hts _ q_cl_L_24, hT.2.2.1⟩) (by decide) (by decide) (hts _ q_cl_L_13) q_face_IAE (fun q9 H hz hk => ?_)
  have hPx : va_P D vwCl (xw κ a v) H := xw_kept hPx hk
  have hPo : va_P D vwCl (ol_ κ o w) H := xw_kept hPo hk
  have hS : va_S (xo_ a o) s.heap H [] := ⟨hz, fun q h1 _ => hk q h1, fun _ h => absurd h List.not_mem_nil⟩
  refine lv_astore (lv' := [(5, .ref (q9)), (0, .ref (a 0)), (1, .int (nI (s_))), (2, .int (nI (c_))), (3, .int (z)), (4, .ref (o))]) hx hb dL_setShare_19 hl (by decide) rfl (fun ls hl => ?_)
  refine lv_iconst (v := nI (2)) hx hb dL_setShare_21 (by decide) ?_
  exact hend _ _ _ _ _ _ (by decide) (by decide) dL_setShare_22 hPx ⟨_, hPo, fun z => absurd z (by decide)⟩ hS
set_option maxHeartbeats 4000000 in
set_option maxRecDepth 100000 in
theorem h_setShare_x4 (l : Launch) (D : va_G) (κ : Nat → ClassId) (a : Nat → Nat) (v : VS) (hv : ok_v v) (hap : ap_ a 9) (hls : l.stackTraces = false) (o : Nat) (hoa : ¬ xa_ a o) (w : Nat → Int64) (r9 : Int64) (s_ : Nat) (c_ : Nat) (x_ : Nat) (hs : s_ < vs_n v) (hc : c_ < vs_c v) (hx9 : x_ ≤ 9) (hz : 0 < vs_t v) : Hp l yL_setShare cL_setShare 6 [(0, 12, 15, 24), (0, 12, 19, 13), (0, 12, 23, 15)] 8 127 (Ph_ D κ a v (ol_ κ o w) [.ref (a 0), .int (nI (s_)), .int (nI (c_)), .int (nI (x_)), .ref (o)]) D κ a o v 3 (Pl_ D κ o 3 (r9)) := by
  refine hp_intro (by decide +kernel) rfl (Nat.le_of_ble_eq_true rfl) ?_
  intro p e s m args below meth c ls Qq hx hb hml hown hts hK hKx hPx hPo hS hT htab hend hl
  have hl : lv_has ls 6 [(0, .ref (a 0)), (1, .int (nI (s_))), (2, .int (nI (c_))), (3, .int (nI (x_))), (4, .ref (o))] := hl
  refine lv_aload hx hb dL_setShare_0 (lv_at hl 4 rfl) ?_
  refine lv_iconst (v := nI (0)) hx hb dL_setShare_2 (by decide) ?_
  refine lv_aload_n hx hb dL_setShare_3 rfl (lv_at hl 0 rfl) ?_
  refine lv_iload_n hx hb dL_setShare_4 rfl (lv_at hl 1 rfl) ?_
  refine lv_iload_n hx hb dL_setShare_5 rfl (lv_at hl 2 rfl) ?_
  refine lv_iload_n hx hb dL_setShare_6 rfl (lv_at hl 3 rfl) ?_
  refine tx_catch (rest := [.int (nI (0)), .ref (o)]) ⟨hx, hb, hml, hown, hts⟩ (c_X0_setShare_x4 l D κ a v hv hls (s_) (c_) (x_) (hs) (hc) (hx9) (hz)) g_L_20 n_X0_setShare ⟨Nat.le_of_ble_eq_true rfl, Nat.le_of_ble_eq_true rfl⟩ hKx hPx (Thr_of hT) rfl rfl rfl hl.1 rfl (Nat.le_of_ble_eq_true rfl) dL_setShare_7 ⟨Nat.le_of_ble_eq_true rfl, Nat.le_of_ble_eq_true rfl⟩ [⟨0, 12, 15, 24⟩, ⟨0, 12, 19, 13⟩] ⟨0, 12, 23, 15⟩ [] htab (fun z hz => by
      simp only [List.mem_cons, List.not_mem_nil, or_false] at hz
      rcases hz with hz | hz
      · subst hz; exact Or.inr ⟨by decide, _, hts _ q_cl_L_24, hT.2.2.2⟩
      · subst hz; exact Or.inr ⟨by decide, _, hts _ q_cl_L_13, hT.2.1⟩) (by decide) (by decide) (hts _ q_cl_L_15) q_face_ISE (fun q9 H hz hk => ?_)
  have hPx : va_P D vwCl (xw κ a v) H := xw_kept hPx hk
  have hPo : va_P D vwCl (ol_ κ o w) H := xw_kept hPo hk
  have hS : va_S (xo_ a o) s.heap H [] := ⟨hz, fun q h1 _ => hk q h1, fun _ h => absurd h List.not_mem_nil⟩
  refine lv_astore (lv' := [(5, .ref (q9)), (0, .ref (a 0)), (1, .int (nI (s_))), (2, .int (nI (c_))), (3, .int (nI (x_))), (4, .ref (o))]) hx hb dL_setShare_23 hl (by decide) rfl (fun ls hl => ?_)
  refine lv_iconst (v := nI (3)) hx hb dL_setShare_25 (by decide) ?_
  exact hend _ _ _ _ _ _ (by decide) (by decide) dL_setShare_26 hPx ⟨_, hPo, fun z => absurd z (by decide)⟩ hS
set_option maxHeartbeats 4000000 in
set_option maxRecDepth 100000 in
theorem h_setShare_ok (l : Launch) (D : va_G) (κ : Nat → ClassId) (a : Nat → Nat) (v : VS) (hv : ok_v v) (hap : ap_ a 9) (hls : l.stackTraces = false) (o : Nat) (hoa : ¬ xa_ a o) (w : Nat → Int64) (s_ : Nat) (c_ : Nat) (x_ : Nat) (hs : s_ < vs_n v) (hc : c_ < vs_c v) (hx9 : x_ ≤ 9) (h0 : vs_t v = 0) : Hp l yL_setShare cL_setShare 6 [(0, 12, 15, 24), (0, 12, 19, 13), (0, 12, 23, 15)] 8 127 (Ph_ D κ a v (ol_ κ o w) [.ref (a 0), .int (nI (s_)), .int (nI (c_)), .int (nI (x_)), .ref (o)]) D κ a o (nx_setShare v s_ c_ x_) 0 (Pl_ D κ o 0 ((nI (vs_sh v s_ c_)).toInt64)) := by
  refine hp_intro (by decide +kernel) rfl (Nat.le_of_ble_eq_true rfl) ?_
  intro p e s m args below meth c ls Qq hx hb hml hown hts hK hKx hPx hPo hS hT htab hend hl
  have hl : lv_has ls 6 [(0, .ref (a 0)), (1, .int (nI (s_))), (2, .int (nI (c_))), (3, .int (nI (x_))), (4, .ref (o))] := hl
  obtain ⟨hv1, hv2, hv3, hv4, hv5, hv6⟩ := id hv
  refine lv_aload hx hb dL_setShare_0 (lv_at hl 4 rfl) ?_
  refine lv_iconst (v := nI (0)) hx hb dL_setShare_2 (by decide) ?_
  refine lv_aload_n hx hb dL_setShare_3 rfl (lv_at hl 0 rfl) ?_
  refine lv_iload_n hx hb dL_setShare_4 rfl (lv_at hl 1 rfl) ?_
  refine lv_iload_n hx hb dL_setShare_5 rfl (lv_at hl 2 rfl) ?_
  refine lv_iload_n hx hb dL_setShare_6 rfl (lv_at hl 3 rfl) ?_
  refine wr_V (rest := [.int (nI (0)), .ref (o)]) ⟨hx, hb, hml, hown, hts⟩ (c_X0_setShare l D κ a v hv hap (s_) (c_) (x_) (hs) (hc) (hx9) (h0)) g_L_20 n_X0_setShare ⟨Nat.le_of_ble_eq_true rfl, Nat.le_of_ble_eq_true rfl⟩ hKx hPx rfl rfl rfl hl.1 rfl (Nat.le_of_ble_eq_true rfl) dL_setShare_7 ⟨Nat.zero_le _, Nat.zero_le _⟩ hS (fun _ h => Or.inl h) (fun H locs hPx hS _ hk => ?_)
  have hPo : va_P D vwCl (ol_ κ o w) H := ol_kept hPo hoa hk
  refine lv_i2l (v := (nI (vs_sh v s_ c_)).toInt64) hx hb dL_setShare_10 rfl ?_
  refine hp_store hx hb hK hPx hPo hap hoa hS dL_setShare_11 (fun H locs hPx hPo hS => ?_)
  refine lv_goto (tgt := 27) hx hb dL_setShare_12 (by decide) ?_
  refine lv_iconst (v := nI (0)) hx hb dL_setShare_27 (by decide) ?_
  exact hend _ _ _ _ _ _ (by decide) (by decide) dL_setShare_28 hPx ⟨_, hPo, fun _ => rfl⟩ hS
set_option maxHeartbeats 4000000 in
set_option maxRecDepth 100000 in
theorem h_toss_x (l : Launch) (D : va_G) (κ : Nat → ClassId) (a : Nat → Nat) (v : VS) (hv : ok_v v) (hap : ap_ a 9) (hls : l.stackTraces = false) (o : Nat) (hoa : ¬ xa_ a o) (w : Nat → Int64) (r9 : Int64) (h_ : Bool) (hz : vs_t v = 12 ∨ ch_ v h_ (hh_ v) (tt_ v) = 0) : Hp l yL_toss cL_toss 4 [(0, 9, 12, 15)] 8 130 (Ph_ D κ a v (ol_ κ o w) [.ref (a 0), .int (bI (h_)), .ref (o)]) D κ a o v 1 (Pl_ D κ o 1 (r9)) := by
  refine hp_intro (by decide +kernel) rfl (Nat.le_of_ble_eq_true rfl) ?_
  intro p e s m args below meth c ls Qq hx hb hml hown hts hK hKx hPx hPo hS hT htab hend hl
  have hl : lv_has ls 4 [(0, .ref (a 0)), (1, .int (bI (h_))), (2, .ref (o))] := hl
  refine lv_aload_n hx hb dL_toss_0 rfl (lv_at hl 2 rfl) ?_
  refine lv_iconst (v := nI (0)) hx hb dL_toss_1 (by decide) ?_
  refine lv_aload_n hx hb dL_toss_2 rfl (lv_at hl 0 rfl) ?_
  refine lv_iload_n hx hb dL_toss_3 rfl (lv_at hl 1 rfl) ?_
  refine tx_catch (rest := [.int (nI (0)), .ref (o)]) ⟨hx, hb, hml, hown, hts⟩ (c_X0_toss_x l D κ a v hv hls (h_) (hz)) g_L_26 n_X0_toss ⟨Nat.le_of_ble_eq_true rfl, Nat.le_of_ble_eq_true rfl⟩ hKx hPx (Thr_of hT) rfl rfl rfl hl.1 rfl (Nat.le_of_ble_eq_true rfl) dL_toss_4 ⟨Nat.le_of_ble_eq_true rfl, Nat.le_of_ble_eq_true rfl⟩ [] ⟨0, 9, 12, 15⟩ [] htab (fun z hz => absurd hz List.not_mem_nil) (by decide) (by decide) (hts _ q_cl_L_15) q_face_ISE (fun q9 H hz hk => ?_)
  have hPx : va_P D vwCl (xw κ a v) H := xw_kept hPx hk
  have hPo : va_P D vwCl (ol_ κ o w) H := xw_kept hPo hk
  have hS : va_S (xo_ a o) s.heap H [] := ⟨hz, fun q h1 _ => hk q h1, fun _ h => absurd h List.not_mem_nil⟩
  refine lv_astore_n (lv' := [(3, .ref (q9)), (0, .ref (a 0)), (1, .int (bI (h_))), (2, .ref (o))]) hx hb dL_toss_12 rfl hl (by decide) rfl (fun ls hl => ?_)
  refine lv_iconst (v := nI (1)) hx hb dL_toss_13 (by decide) ?_
  exact hend _ _ _ _ _ _ (by decide) (by decide) dL_toss_14 hPx ⟨_, hPo, fun z => absurd z (by decide)⟩ hS
set_option maxHeartbeats 4000000 in
set_option maxRecDepth 100000 in
theorem h_toss_ok (l : Launch) (D : va_G) (κ : Nat → ClassId) (a : Nat → Nat) (v : VS) (hv : ok_v v) (hap : ap_ a 9) (hls : l.stackTraces = false) (o : Nat) (hoa : ¬ xa_ a o) (w : Nat → Int64) (h_ : Bool) (ht12 : vs_t v < 12) (hp : 0 < ch_ v h_ (hh_ v) (tt_ v)) : Hp l yL_toss cL_toss 4 [(0, 9, 12, 15)] 8 130 (Ph_ D κ a v (ol_ κ o w) [.ref (a 0), .int (bI (h_)), .ref (o)]) D κ a o (nx_toss v h_) 0 (Pl_ D κ o 0 ((nI (su_ v h_ (hh_ v) (tt_ v))).toInt64)) := by
  refine hp_intro (by decide +kernel) rfl (Nat.le_of_ble_eq_true rfl) ?_
  intro p e s m args below meth c ls Qq hx hb hml hown hts hK hKx hPx hPo hS hT htab hend hl
  have hl : lv_has ls 4 [(0, .ref (a 0)), (1, .int (bI (h_))), (2, .ref (o))] := hl
  obtain ⟨hv1, hv2, hv3, hv4, hv5, hv6⟩ := id hv
  refine lv_aload_n hx hb dL_toss_0 rfl (lv_at hl 2 rfl) ?_
  refine lv_iconst (v := nI (0)) hx hb dL_toss_1 (by decide) ?_
  refine lv_aload_n hx hb dL_toss_2 rfl (lv_at hl 0 rfl) ?_
  refine lv_iload_n hx hb dL_toss_3 rfl (lv_at hl 1 rfl) ?_
  refine wr_V (rest := [.int (nI (0)), .ref (o)]) ⟨hx, hb, hml, hown, hts⟩ (c_X0_toss l D κ a v hv hap (h_) (ht12) (hp)) g_L_26 n_X0_toss ⟨Nat.le_of_ble_eq_true rfl, Nat.le_of_ble_eq_true rfl⟩ hKx hPx rfl rfl rfl hl.1 rfl (Nat.le_of_ble_eq_true rfl) dL_toss_4 ⟨Nat.zero_le _, Nat.zero_le _⟩ hS (fun _ h => Or.inl h) (fun H locs hPx hS _ hk => ?_)
  have hPo : va_P D vwCl (ol_ κ o w) H := ol_kept hPo hoa hk
  refine lv_i2l (v := (nI (su_ v h_ (hh_ v) (tt_ v))).toInt64) hx hb dL_toss_7 rfl ?_
  refine hp_store hx hb hK hPx hPo hap hoa hS dL_toss_8 (fun H locs hPx hPo hS => ?_)
  refine lv_goto (tgt := 15) hx hb dL_toss_9 (by decide) ?_
  refine lv_iconst (v := nI (0)) hx hb dL_toss_15 (by decide) ?_
  exact hend _ _ _ _ _ _ (by decide) (by decide) dL_toss_16 hPx ⟨_, hPo, fun _ => rfl⟩ hS
set_option maxHeartbeats 4000000 in
set_option maxRecDepth 100000 in
theorem h_undo_x (l : Launch) (D : va_G) (κ : Nat → ClassId) (a : Nat → Nat) (v : VS) (hv : ok_v v) (hap : ap_ a 9) (hls : l.stackTraces = false) (o : Nat) (hoa : ¬ xa_ a o) (w : Nat → Int64) (r9 : Int64) (hz : vs_t v = 0) : Hp l yL_undo cL_undo 3 [(0, 15, 18, 15)] 7 102 (Ph_ D κ a v (ol_ κ o w) [.ref (a 0), .ref (o)]) D κ a o v 1 (Pl_ D κ o 1 (r9)) := by
  refine hp_intro (by decide +kernel) rfl (Nat.le_of_ble_eq_true rfl) ?_
  intro p e s m args below meth c ls Qq hx hb hml hown hts hK hKx hPx hPo hS hT htab hend hl
  have hl : lv_has ls 3 [(0, .ref (a 0)), (1, .ref (o))] := hl
  refine lv_aload_n hx hb dL_undo_0 rfl (lv_at hl 1 rfl) ?_
  refine lv_iconst (v := nI (0)) hx hb dL_undo_1 (by decide) ?_
  refine lv_aload_n hx hb dL_undo_2 rfl (lv_at hl 0 rfl) ?_
  refine tx_catch (rest := [.int (nI (0)), .ref (o)]) ⟨hx, hb, hml, hown, hts⟩ (c_X0_undo_x l D κ a v hv hls  (hz)) g_L_30 n_X0_undo ⟨Nat.le_of_ble_eq_true rfl, Nat.le_of_ble_eq_true rfl⟩ hKx hPx (Thr_of hT) rfl rfl rfl hl.1 rfl (Nat.le_of_ble_eq_true rfl) dL_undo_3 ⟨Nat.le_of_ble_eq_true rfl, Nat.le_of_ble_eq_true rfl⟩ [] ⟨0, 15, 18, 15⟩ [] htab (fun z hz => absurd hz List.not_mem_nil) (by decide) (by decide) (hts _ q_cl_L_15) q_face_ISE (fun q9 H hz hk => ?_)
  have hPx : va_P D vwCl (xw κ a v) H := xw_kept hPx hk
  have hPo : va_P D vwCl (ol_ κ o w) H := xw_kept hPo hk
  have hS : va_S (xo_ a o) s.heap H [] := ⟨hz, fun q h1 _ => hk q h1, fun _ h => absurd h List.not_mem_nil⟩
  refine lv_astore_n (lv' := [(2, .ref (q9)), (0, .ref (a 0)), (1, .ref (o))]) hx hb dL_undo_18 rfl hl (by decide) rfl (fun ls hl => ?_)
  refine lv_iconst (v := nI (1)) hx hb dL_undo_19 (by decide) ?_
  exact hend _ _ _ _ _ _ (by decide) (by decide) dL_undo_20 hPx ⟨_, hPo, fun z => absurd z (by decide)⟩ hS
set_option maxHeartbeats 4000000 in
set_option maxRecDepth 100000 in
theorem h_undo_ok (l : Launch) (D : va_G) (κ : Nat → ClassId) (a : Nat → Nat) (v : VS) (hv : ok_v v) (hap : ap_ a 9) (hls : l.stackTraces = false) (o : Nat) (hoa : ¬ xa_ a o) (w : Nat → Int64) (h0 : 0 < vs_t v) : Hp l yL_undo cL_undo 3 [(0, 15, 18, 15)] 7 102 (Ph_ D κ a v (ol_ κ o w) [.ref (a 0), .ref (o)]) D κ a o (nx_undo v) 0 (Pl_ D κ o 0 ((bI (vs_th v (vs_t v - 1))).toInt64)) := by
  refine hp_intro (by decide +kernel) rfl (Nat.le_of_ble_eq_true rfl) ?_
  intro p e s m args below meth c ls Qq hx hb hml hown hts hK hKx hPx hPo hS hT htab hend hl
  have hl : lv_has ls 3 [(0, .ref (a 0)), (1, .ref (o))] := hl
  obtain ⟨hv1, hv2, hv3, hv4, hv5, hv6⟩ := id hv
  refine lv_aload_n hx hb dL_undo_0 rfl (lv_at hl 1 rfl) ?_
  refine lv_iconst (v := nI (0)) hx hb dL_undo_1 (by decide) ?_
  refine lv_aload_n hx hb dL_undo_2 rfl (lv_at hl 0 rfl) ?_
  refine wr_V (rest := [.int (nI (0)), .ref (o)]) ⟨hx, hb, hml, hown, hts⟩ (c_X0_undo l D κ a v hv hap  (h0)) g_L_30 n_X0_undo ⟨Nat.le_of_ble_eq_true rfl, Nat.le_of_ble_eq_true rfl⟩ hKx hPx rfl rfl rfl hl.1 rfl (Nat.le_of_ble_eq_true rfl) dL_undo_3 ⟨Nat.zero_le _, Nat.zero_le _⟩ hS (fun _ h => Or.inl h) (fun H locs hPx hS _ hk => ?_)
  have hPo : va_P D vwCl (ol_ κ o w) H := ol_kept hPo hoa hk
  refine bv_if_eq (tgt := 13) hx hb dL_undo_6 (by decide) (fun c_6 => ?_) (fun c_6 => ?_)
  · refine lv_lconst (v := lN (0)) hx hb dL_undo_13 (by decide) ?_
    refine nv_topl (show (lN (0) : Int64) = (bI (vs_th v (vs_t v - 1))).toInt64 from by rw [c_6]; rfl) ?_
    refine hp_store hx hb hK hPx hPo hap hoa hS dL_undo_14 (fun H locs hPx hPo hS => ?_)
    refine lv_goto (tgt := 21) hx hb dL_undo_15 (by decide) ?_
    refine lv_iconst (v := nI (0)) hx hb dL_undo_21 (by decide) ?_
    exact hend _ _ _ _ _ _ (by decide) (by decide) dL_undo_22 hPx ⟨_, hPo, fun _ => rfl⟩ hS
  · refine lv_lconst (v := lN (1)) hx hb dL_undo_9 (by decide) ?_
    refine lv_goto (tgt := 14) hx hb dL_undo_10 (by decide) ?_
    refine nv_topl (show (lN (1) : Int64) = (bI (vs_th v (vs_t v - 1))).toInt64 from by rw [c_6]; rfl) ?_
    refine hp_store hx hb hK hPx hPo hap hoa hS dL_undo_14 (fun H locs hPx hPo hS => ?_)
    refine lv_goto (tgt := 21) hx hb dL_undo_15 (by decide) ?_
    refine lv_iconst (v := nI (0)) hx hb dL_undo_21 (by decide) ?_
    exact hend _ _ _ _ _ _ (by decide) (by decide) dL_undo_22 hPx ⟨_, hPo, fun _ => rfl⟩ hS
set_option maxHeartbeats 4000000 in
set_option maxRecDepth 100000 in
theorem h_strike_x (l : Launch) (D : va_G) (κ : Nat → ClassId) (a : Nat → Nat) (v : VS) (hv : ok_v v) (hap : ap_ a 9) (hls : l.stackTraces = false) (o : Nat) (hoa : ¬ xa_ a o) (w : Nat → Int64) (r9 : Int64) (x : Int32) (hx0 : ix_ x (vs_t v) = false) : Hp l yL_strike cL_strike 4 [(0, 9, 12, 24)] 8 125 (Ph_ D κ a v (ol_ κ o w) [.ref (a 0), .int (x), .ref (o)]) D κ a o v 1 (Pl_ D κ o 1 (r9)) := by
  refine hp_intro (by decide +kernel) rfl (Nat.le_of_ble_eq_true rfl) ?_
  intro p e s m args below meth c ls Qq hx hb hml hown hts hK hKx hPx hPo hS hT htab hend hl
  have hl : lv_has ls 4 [(0, .ref (a 0)), (1, .int (x)), (2, .ref (o))] := hl
  refine lv_aload_n hx hb dL_strike_0 rfl (lv_at hl 2 rfl) ?_
  refine lv_iconst (v := nI (0)) hx hb dL_strike_1 (by decide) ?_
  refine lv_aload_n hx hb dL_strike_2 rfl (lv_at hl 0 rfl) ?_
  refine lv_iload_n hx hb dL_strike_3 rfl (lv_at hl 1 rfl) ?_
  refine tx_catch (rest := [.int (nI (0)), .ref (o)]) ⟨hx, hb, hml, hown, hts⟩ (c_X0_strike_x l D κ a v hv hls (x) (hx0)) g_L_34 n_X0_strike ⟨Nat.le_of_ble_eq_true rfl, Nat.le_of_ble_eq_true rfl⟩ hKx hPx (Thr_of hT) rfl rfl rfl hl.1 rfl (Nat.le_of_ble_eq_true rfl) dL_strike_4 ⟨Nat.le_of_ble_eq_true rfl, Nat.le_of_ble_eq_true rfl⟩ [] ⟨0, 9, 12, 24⟩ [] htab (fun z hz => absurd hz List.not_mem_nil) (by decide) (by decide) (hts _ q_cl_L_24) q_face_IOB (fun q9 H hz hk => ?_)
  have hPx : va_P D vwCl (xw κ a v) H := xw_kept hPx hk
  have hPo : va_P D vwCl (ol_ κ o w) H := xw_kept hPo hk
  have hS : va_S (xo_ a o) s.heap H [] := ⟨hz, fun q h1 _ => hk q h1, fun _ h => absurd h List.not_mem_nil⟩
  refine lv_astore_n (lv' := [(3, .ref (q9)), (0, .ref (a 0)), (1, .int (x)), (2, .ref (o))]) hx hb dL_strike_12 rfl hl (by decide) rfl (fun ls hl => ?_)
  refine lv_iconst (v := nI (1)) hx hb dL_strike_13 (by decide) ?_
  exact hend _ _ _ _ _ _ (by decide) (by decide) dL_strike_14 hPx ⟨_, hPo, fun z => absurd z (by decide)⟩ hS
set_option maxHeartbeats 4000000 in
set_option maxRecDepth 100000 in
theorem h_strike_ok (l : Launch) (D : va_G) (κ : Nat → ClassId) (a : Nat → Nat) (v : VS) (hv : ok_v v) (hap : ap_ a 9) (hls : l.stackTraces = false) (o : Nat) (hoa : ¬ xa_ a o) (w : Nat → Int64) (k_ : Nat) (hk : k_ < vs_t v) : Hp l yL_strike cL_strike 4 [(0, 9, 12, 24)] 8 125 (Ph_ D κ a v (ol_ κ o w) [.ref (a 0), .int (nI (k_)), .ref (o)]) D κ a o (nx_strike v k_) 0 (Pl_ D κ o 0 ((nI (vs_t v - 1)).toInt64)) := by
  refine hp_intro (by decide +kernel) rfl (Nat.le_of_ble_eq_true rfl) ?_
  intro p e s m args below meth c ls Qq hx hb hml hown hts hK hKx hPx hPo hS hT htab hend hl
  have hl : lv_has ls 4 [(0, .ref (a 0)), (1, .int (nI (k_))), (2, .ref (o))] := hl
  obtain ⟨hv1, hv2, hv3, hv4, hv5, hv6⟩ := id hv
  refine lv_aload_n hx hb dL_strike_0 rfl (lv_at hl 2 rfl) ?_
  refine lv_iconst (v := nI (0)) hx hb dL_strike_1 (by decide) ?_
  refine lv_aload_n hx hb dL_strike_2 rfl (lv_at hl 0 rfl) ?_
  refine lv_iload_n hx hb dL_strike_3 rfl (lv_at hl 1 rfl) ?_
  refine wr_V (rest := [.int (nI (0)), .ref (o)]) ⟨hx, hb, hml, hown, hts⟩ (c_X0_strike l D κ a v hv hap (k_) (hk)) g_L_34 n_X0_strike ⟨Nat.le_of_ble_eq_true rfl, Nat.le_of_ble_eq_true rfl⟩ hKx hPx rfl rfl rfl hl.1 rfl (Nat.le_of_ble_eq_true rfl) dL_strike_4 ⟨Nat.zero_le _, Nat.zero_le _⟩ hS (fun _ h => Or.inl h) (fun H locs hPx hS _ hk => ?_)
  have hPo : va_P D vwCl (ol_ κ o w) H := ol_kept hPo hoa hk
  refine lv_i2l (v := (nI (vs_t v - 1)).toInt64) hx hb dL_strike_7 rfl ?_
  refine hp_store hx hb hK hPx hPo hap hoa hS dL_strike_8 (fun H locs hPx hPo hS => ?_)
  refine lv_goto (tgt := 15) hx hb dL_strike_9 (by decide) ?_
  refine lv_iconst (v := nI (0)) hx hb dL_strike_15 (by decide) ?_
  exact hend _ _ _ _ _ _ (by decide) (by decide) dL_strike_16 hPx ⟨_, hPo, fun _ => rfl⟩ hS
set_option maxHeartbeats 4000000 in
set_option maxRecDepth 100000 in
theorem h_isHeads_ok (l : Launch) (D : va_G) (κ : Nat → ClassId) (a : Nat → Nat) (v : VS) (hv : ok_v v) (hap : ap_ a 9) (hls : l.stackTraces = false) (o : Nat) (hoa : ¬ xa_ a o) (w : Nat → Int64) (t_ : Nat) (ht : t_ < vs_t v) : Hp l yL_isHeads cL_isHeads 4 [(0, 16, 19, 24)] 8 124 (Ph_ D κ a v (ol_ κ o w) [.ref (a 0), .int (nI (t_)), .ref (o)]) D κ a o v 0 (Pl_ D κ o 0 ((bI (vs_th v t_)).toInt64)) := by
  refine hp_intro (by decide +kernel) rfl (Nat.le_of_ble_eq_true rfl) ?_
  intro p e s m args below meth c ls Qq hx hb hml hown hts hK hKx hPx hPo hS hT htab hend hl
  have hl : lv_has ls 4 [(0, .ref (a 0)), (1, .int (nI (t_))), (2, .ref (o))] := hl
  obtain ⟨hv1, hv2, hv3, hv4, hv5, hv6⟩ := id hv
  refine lv_aload_n hx hb dL_isHeads_0 rfl (lv_at hl 2 rfl) ?_
  refine lv_iconst (v := nI (0)) hx hb dL_isHeads_1 (by decide) ?_
  refine lv_aload_n hx hb dL_isHeads_2 rfl (lv_at hl 0 rfl) ?_
  refine lv_iload_n hx hb dL_isHeads_3 rfl (lv_at hl 1 rfl) ?_
  refine rd_V (rest := [.int (nI (0)), .ref (o)]) ⟨hx, hb, hml, hown, hts⟩ (c_X0_isHeads l D κ a v hv (t_) (ht)) g_L_37 n_X0_isHeads ⟨Nat.le_of_ble_eq_true rfl, Nat.le_of_ble_eq_true rfl⟩ hKx hPx rfl rfl rfl hl.1 rfl (Nat.le_of_ble_eq_true rfl) dL_isHeads_4 ⟨Nat.zero_le _, Nat.zero_le _⟩ ?_
  refine bv_if_eq (tgt := 14) hx hb dL_isHeads_7 (by decide) (fun c_7 => ?_) (fun c_7 => ?_)
  · refine lv_lconst (v := lN (0)) hx hb dL_isHeads_14 (by decide) ?_
    refine nv_topl (show (lN (0) : Int64) = (bI (vs_th v t_)).toInt64 from by rw [c_7]; rfl) ?_
    refine hp_store hx hb hK hPx hPo hap hoa hS dL_isHeads_15 (fun H locs hPx hPo hS => ?_)
    refine lv_goto (tgt := 22) hx hb dL_isHeads_16 (by decide) ?_
    refine lv_iconst (v := nI (0)) hx hb dL_isHeads_22 (by decide) ?_
    exact hend _ _ _ _ _ _ (by decide) (by decide) dL_isHeads_23 hPx ⟨_, hPo, fun _ => rfl⟩ hS
  · refine lv_lconst (v := lN (1)) hx hb dL_isHeads_10 (by decide) ?_
    refine lv_goto (tgt := 15) hx hb dL_isHeads_11 (by decide) ?_
    refine nv_topl (show (lN (1) : Int64) = (bI (vs_th v t_)).toInt64 from by rw [c_7]; rfl) ?_
    refine hp_store hx hb hK hPx hPo hap hoa hS dL_isHeads_15 (fun H locs hPx hPo hS => ?_)
    refine lv_goto (tgt := 22) hx hb dL_isHeads_16 (by decide) ?_
    refine lv_iconst (v := nI (0)) hx hb dL_isHeads_22 (by decide) ?_
    exact hend _ _ _ _ _ _ (by decide) (by decide) dL_isHeads_23 hPx ⟨_, hPo, fun _ => rfl⟩ hS
set_option maxHeartbeats 4000000 in
set_option maxRecDepth 100000 in
theorem h_isHeads_x (l : Launch) (D : va_G) (κ : Nat → ClassId) (a : Nat → Nat) (v : VS) (hv : ok_v v) (hap : ap_ a 9) (hls : l.stackTraces = false) (o : Nat) (hoa : ¬ xa_ a o) (w : Nat → Int64) (r9 : Int64) (x : Int32) (hx0 : ix_ x (vs_t v) = false) : Hp l yL_isHeads cL_isHeads 4 [(0, 16, 19, 24)] 8 124 (Ph_ D κ a v (ol_ κ o w) [.ref (a 0), .int (x), .ref (o)]) D κ a o v 1 (Pl_ D κ o 1 (r9)) := by
  refine hp_intro (by decide +kernel) rfl (Nat.le_of_ble_eq_true rfl) ?_
  intro p e s m args below meth c ls Qq hx hb hml hown hts hK hKx hPx hPo hS hT htab hend hl
  have hl : lv_has ls 4 [(0, .ref (a 0)), (1, .int (x)), (2, .ref (o))] := hl
  refine lv_aload_n hx hb dL_isHeads_0 rfl (lv_at hl 2 rfl) ?_
  refine lv_iconst (v := nI (0)) hx hb dL_isHeads_1 (by decide) ?_
  refine lv_aload_n hx hb dL_isHeads_2 rfl (lv_at hl 0 rfl) ?_
  refine lv_iload_n hx hb dL_isHeads_3 rfl (lv_at hl 1 rfl) ?_
  refine tx_catch (rest := [.int (nI (0)), .ref (o)]) ⟨hx, hb, hml, hown, hts⟩ (c_X0_isHeads_x l D κ a v hv hls (x) (hx0)) g_L_37 n_X0_isHeads ⟨Nat.le_of_ble_eq_true rfl, Nat.le_of_ble_eq_true rfl⟩ hKx hPx (Thr_of hT) rfl rfl rfl hl.1 rfl (Nat.le_of_ble_eq_true rfl) dL_isHeads_4 ⟨Nat.le_of_ble_eq_true rfl, Nat.le_of_ble_eq_true rfl⟩ [] ⟨0, 16, 19, 24⟩ [] htab (fun z hz => absurd hz List.not_mem_nil) (by decide) (by decide) (hts _ q_cl_L_24) q_face_IOB (fun q9 H hz hk => ?_)
  have hPx : va_P D vwCl (xw κ a v) H := xw_kept hPx hk
  have hPo : va_P D vwCl (ol_ κ o w) H := xw_kept hPo hk
  have hS : va_S (xo_ a o) s.heap H [] := ⟨hz, fun q h1 _ => hk q h1, fun _ h => absurd h List.not_mem_nil⟩
  refine lv_astore_n (lv' := [(3, .ref (q9)), (0, .ref (a 0)), (1, .int (x)), (2, .ref (o))]) hx hb dL_isHeads_19 rfl hl (by decide) rfl (fun ls hl => ?_)
  refine lv_iconst (v := nI (1)) hx hb dL_isHeads_20 (by decide) ?_
  exact hend _ _ _ _ _ _ (by decide) (by decide) dL_isHeads_21 hPx ⟨_, hPo, fun z => absurd z (by decide)⟩ hS
set_option maxHeartbeats 4000000 in
set_option maxRecDepth 100000 in
theorem h_tenthsOf_ok (l : Launch) (D : va_G) (κ : Nat → ClassId) (a : Nat → Nat) (v : VS) (hv : ok_v v) (hap : ap_ a 9) (hls : l.stackTraces = false) (o : Nat) (hoa : ¬ xa_ a o) (w : Nat → Int64) (c_ : Nat) (hc : c_ < vs_c v) : Hp l yL_tenthsOf cL_tenthsOf 4 [(0, 9, 12, 24)] 8 124 (Ph_ D κ a v (ol_ κ o w) [.ref (a 0), .int (nI (c_)), .ref (o)]) D κ a o v 0 (Pl_ D κ o 0 ((nI (vs_ct v c_)).toInt64)) := by
  refine hp_intro (by decide +kernel) rfl (Nat.le_of_ble_eq_true rfl) ?_
  intro p e s m args below meth c ls Qq hx hb hml hown hts hK hKx hPx hPo hS hT htab hend hl
  have hl : lv_has ls 4 [(0, .ref (a 0)), (1, .int (nI (c_))), (2, .ref (o))] := hl
  obtain ⟨hv1, hv2, hv3, hv4, hv5, hv6⟩ := id hv
  refine lv_aload_n hx hb dL_tenthsOf_0 rfl (lv_at hl 2 rfl) ?_
  refine lv_iconst (v := nI (0)) hx hb dL_tenthsOf_1 (by decide) ?_
  refine lv_aload_n hx hb dL_tenthsOf_2 rfl (lv_at hl 0 rfl) ?_
  refine lv_iload_n hx hb dL_tenthsOf_3 rfl (lv_at hl 1 rfl) ?_
  refine rd_V (rest := [.int (nI (0)), .ref (o)]) ⟨hx, hb, hml, hown, hts⟩ (c_X0_tenthsOf l D κ a v hv (c_) (hc)) g_L_41 n_X0_tenthsOf ⟨Nat.le_of_ble_eq_true rfl, Nat.le_of_ble_eq_true rfl⟩ hKx hPx rfl rfl rfl hl.1 rfl (Nat.le_of_ble_eq_true rfl) dL_tenthsOf_4 ⟨Nat.zero_le _, Nat.zero_le _⟩ ?_
  refine lv_i2l (v := (nI (vs_ct v c_)).toInt64) hx hb dL_tenthsOf_7 rfl ?_
  refine hp_store hx hb hK hPx hPo hap hoa hS dL_tenthsOf_8 (fun H locs hPx hPo hS => ?_)
  refine lv_goto (tgt := 15) hx hb dL_tenthsOf_9 (by decide) ?_
  refine lv_iconst (v := nI (0)) hx hb dL_tenthsOf_15 (by decide) ?_
  exact hend _ _ _ _ _ _ (by decide) (by decide) dL_tenthsOf_16 hPx ⟨_, hPo, fun _ => rfl⟩ hS
set_option maxHeartbeats 4000000 in
set_option maxRecDepth 100000 in
theorem h_tenthsOf_x (l : Launch) (D : va_G) (κ : Nat → ClassId) (a : Nat → Nat) (v : VS) (hv : ok_v v) (hap : ap_ a 9) (hls : l.stackTraces = false) (o : Nat) (hoa : ¬ xa_ a o) (w : Nat → Int64) (r9 : Int64) (x : Int32) (hx0 : ix_ x (vs_c v) = false) : Hp l yL_tenthsOf cL_tenthsOf 4 [(0, 9, 12, 24)] 8 124 (Ph_ D κ a v (ol_ κ o w) [.ref (a 0), .int (x), .ref (o)]) D κ a o v 1 (Pl_ D κ o 1 (r9)) := by
  refine hp_intro (by decide +kernel) rfl (Nat.le_of_ble_eq_true rfl) ?_
  intro p e s m args below meth c ls Qq hx hb hml hown hts hK hKx hPx hPo hS hT htab hend hl
  have hl : lv_has ls 4 [(0, .ref (a 0)), (1, .int (x)), (2, .ref (o))] := hl
  refine lv_aload_n hx hb dL_tenthsOf_0 rfl (lv_at hl 2 rfl) ?_
  refine lv_iconst (v := nI (0)) hx hb dL_tenthsOf_1 (by decide) ?_
  refine lv_aload_n hx hb dL_tenthsOf_2 rfl (lv_at hl 0 rfl) ?_
  refine lv_iload_n hx hb dL_tenthsOf_3 rfl (lv_at hl 1 rfl) ?_
  refine tx_catch (rest := [.int (nI (0)), .ref (o)]) ⟨hx, hb, hml, hown, hts⟩ (c_X0_tenthsOf_x l D κ a v hv hls (x) (hx0)) g_L_41 n_X0_tenthsOf ⟨Nat.le_of_ble_eq_true rfl, Nat.le_of_ble_eq_true rfl⟩ hKx hPx (Thr_of hT) rfl rfl rfl hl.1 rfl (Nat.le_of_ble_eq_true rfl) dL_tenthsOf_4 ⟨Nat.le_of_ble_eq_true rfl, Nat.le_of_ble_eq_true rfl⟩ [] ⟨0, 9, 12, 24⟩ [] htab (fun z hz => absurd hz List.not_mem_nil) (by decide) (by decide) (hts _ q_cl_L_24) q_face_IOB (fun q9 H hz hk => ?_)
  have hPx : va_P D vwCl (xw κ a v) H := xw_kept hPx hk
  have hPo : va_P D vwCl (ol_ κ o w) H := xw_kept hPo hk
  have hS : va_S (xo_ a o) s.heap H [] := ⟨hz, fun q h1 _ => hk q h1, fun _ h => absurd h List.not_mem_nil⟩
  refine lv_astore_n (lv' := [(3, .ref (q9)), (0, .ref (a 0)), (1, .int (x)), (2, .ref (o))]) hx hb dL_tenthsOf_12 rfl hl (by decide) rfl (fun ls hl => ?_)
  refine lv_iconst (v := nI (1)) hx hb dL_tenthsOf_13 (by decide) ?_
  exact hend _ _ _ _ _ _ (by decide) (by decide) dL_tenthsOf_14 hPx ⟨_, hPo, fun z => absurd z (by decide)⟩ hS
set_option maxHeartbeats 4000000 in
set_option maxRecDepth 100000 in
theorem h_oddsOf_ok (l : Launch) (D : va_G) (κ : Nat → ClassId) (a : Nat → Nat) (v : VS) (hv : ok_v v) (hap : ap_ a 9) (hls : l.stackTraces = false) (o : Nat) (hoa : ¬ xa_ a o) (w : Nat → Int64) (s_ : Nat) (hs : s_ < vs_n v) : Hp l yL_oddsOf cL_oddsOf 4 [(0, 9, 12, 24)] 8 124 (Ph_ D κ a v (ol_ κ o w) [.ref (a 0), .int (nI (s_)), .ref (o)]) D κ a o v 0 (Pl_ D κ o 0 ((nI (vs_so v s_)).toInt64)) := by
  refine hp_intro (by decide +kernel) rfl (Nat.le_of_ble_eq_true rfl) ?_
  intro p e s m args below meth c ls Qq hx hb hml hown hts hK hKx hPx hPo hS hT htab hend hl
  have hl : lv_has ls 4 [(0, .ref (a 0)), (1, .int (nI (s_))), (2, .ref (o))] := hl
  obtain ⟨hv1, hv2, hv3, hv4, hv5, hv6⟩ := id hv
  refine lv_aload_n hx hb dL_oddsOf_0 rfl (lv_at hl 2 rfl) ?_
  refine lv_iconst (v := nI (0)) hx hb dL_oddsOf_1 (by decide) ?_
  refine lv_aload_n hx hb dL_oddsOf_2 rfl (lv_at hl 0 rfl) ?_
  refine lv_iload_n hx hb dL_oddsOf_3 rfl (lv_at hl 1 rfl) ?_
  refine rd_V (rest := [.int (nI (0)), .ref (o)]) ⟨hx, hb, hml, hown, hts⟩ (c_X0_oddsOf l D κ a v hv (s_) (hs)) g_L_44 n_X0_oddsOf ⟨Nat.le_of_ble_eq_true rfl, Nat.le_of_ble_eq_true rfl⟩ hKx hPx rfl rfl rfl hl.1 rfl (Nat.le_of_ble_eq_true rfl) dL_oddsOf_4 ⟨Nat.zero_le _, Nat.zero_le _⟩ ?_
  refine lv_i2l (v := (nI (vs_so v s_)).toInt64) hx hb dL_oddsOf_7 rfl ?_
  refine hp_store hx hb hK hPx hPo hap hoa hS dL_oddsOf_8 (fun H locs hPx hPo hS => ?_)
  refine lv_goto (tgt := 15) hx hb dL_oddsOf_9 (by decide) ?_
  refine lv_iconst (v := nI (0)) hx hb dL_oddsOf_15 (by decide) ?_
  exact hend _ _ _ _ _ _ (by decide) (by decide) dL_oddsOf_16 hPx ⟨_, hPo, fun _ => rfl⟩ hS
set_option maxHeartbeats 4000000 in
set_option maxRecDepth 100000 in
theorem h_oddsOf_x (l : Launch) (D : va_G) (κ : Nat → ClassId) (a : Nat → Nat) (v : VS) (hv : ok_v v) (hap : ap_ a 9) (hls : l.stackTraces = false) (o : Nat) (hoa : ¬ xa_ a o) (w : Nat → Int64) (r9 : Int64) (x : Int32) (hx0 : ix_ x (vs_n v) = false) : Hp l yL_oddsOf cL_oddsOf 4 [(0, 9, 12, 24)] 8 124 (Ph_ D κ a v (ol_ κ o w) [.ref (a 0), .int (x), .ref (o)]) D κ a o v 1 (Pl_ D κ o 1 (r9)) := by
  refine hp_intro (by decide +kernel) rfl (Nat.le_of_ble_eq_true rfl) ?_
  intro p e s m args below meth c ls Qq hx hb hml hown hts hK hKx hPx hPo hS hT htab hend hl
  have hl : lv_has ls 4 [(0, .ref (a 0)), (1, .int (x)), (2, .ref (o))] := hl
  refine lv_aload_n hx hb dL_oddsOf_0 rfl (lv_at hl 2 rfl) ?_
  refine lv_iconst (v := nI (0)) hx hb dL_oddsOf_1 (by decide) ?_
  refine lv_aload_n hx hb dL_oddsOf_2 rfl (lv_at hl 0 rfl) ?_
  refine lv_iload_n hx hb dL_oddsOf_3 rfl (lv_at hl 1 rfl) ?_
  refine tx_catch (rest := [.int (nI (0)), .ref (o)]) ⟨hx, hb, hml, hown, hts⟩ (c_X0_oddsOf_x l D κ a v hv hls (x) (hx0)) g_L_44 n_X0_oddsOf ⟨Nat.le_of_ble_eq_true rfl, Nat.le_of_ble_eq_true rfl⟩ hKx hPx (Thr_of hT) rfl rfl rfl hl.1 rfl (Nat.le_of_ble_eq_true rfl) dL_oddsOf_4 ⟨Nat.le_of_ble_eq_true rfl, Nat.le_of_ble_eq_true rfl⟩ [] ⟨0, 9, 12, 24⟩ [] htab (fun z hz => absurd hz List.not_mem_nil) (by decide) (by decide) (hts _ q_cl_L_24) q_face_IOB (fun q9 H hz hk => ?_)
  have hPx : va_P D vwCl (xw κ a v) H := xw_kept hPx hk
  have hPo : va_P D vwCl (ol_ κ o w) H := xw_kept hPo hk
  have hS : va_S (xo_ a o) s.heap H [] := ⟨hz, fun q h1 _ => hk q h1, fun _ h => absurd h List.not_mem_nil⟩
  refine lv_astore_n (lv' := [(3, .ref (q9)), (0, .ref (a 0)), (1, .int (x)), (2, .ref (o))]) hx hb dL_oddsOf_12 rfl hl (by decide) rfl (fun ls hl => ?_)
  refine lv_iconst (v := nI (1)) hx hb dL_oddsOf_13 (by decide) ?_
  exact hend _ _ _ _ _ _ (by decide) (by decide) dL_oddsOf_14 hPx ⟨_, hPo, fun z => absurd z (by decide)⟩ hS
set_option maxHeartbeats 4000000 in
set_option maxRecDepth 100000 in
theorem h_shareOf_ok (l : Launch) (D : va_G) (κ : Nat → ClassId) (a : Nat → Nat) (v : VS) (hv : ok_v v) (hap : ap_ a 9) (hls : l.stackTraces = false) (o : Nat) (hoa : ¬ xa_ a o) (w : Nat → Int64) (s_ : Nat) (c_ : Nat) (hs : s_ < vs_n v) (hc : c_ < vs_c v) : Hp l yL_shareOf cL_shareOf 5 [(0, 10, 13, 24)] 8 125 (Ph_ D κ a v (ol_ κ o w) [.ref (a 0), .int (nI (s_)), .int (nI (c_)), .ref (o)]) D κ a o v 0 (Pl_ D κ o 0 ((nI (vs_sh v s_ c_)).toInt64)) := by
  refine hp_intro (by decide +kernel) rfl (Nat.le_of_ble_eq_true rfl) ?_
  intro p e s m args below meth c ls Qq hx hb hml hown hts hK hKx hPx hPo hS hT htab hend hl
  have hl : lv_has ls 5 [(0, .ref (a 0)), (1, .int (nI (s_))), (2, .int (nI (c_))), (3, .ref (o))] := hl
  obtain ⟨hv1, hv2, hv3, hv4, hv5, hv6⟩ := id hv
  refine lv_aload_n hx hb dL_shareOf_0 rfl (lv_at hl 3 rfl) ?_
  refine lv_iconst (v := nI (0)) hx hb dL_shareOf_1 (by decide) ?_
  refine lv_aload_n hx hb dL_shareOf_2 rfl (lv_at hl 0 rfl) ?_
  refine lv_iload_n hx hb dL_shareOf_3 rfl (lv_at hl 1 rfl) ?_
  refine lv_iload_n hx hb dL_shareOf_4 rfl (lv_at hl 2 rfl) ?_
  refine rd_V (rest := [.int (nI (0)), .ref (o)]) ⟨hx, hb, hml, hown, hts⟩ (c_X0_shareOf l D κ a v hv (s_) (c_) (hs) (hc)) g_L_47 n_X0_shareOf ⟨Nat.le_of_ble_eq_true rfl, Nat.le_of_ble_eq_true rfl⟩ hKx hPx rfl rfl rfl hl.1 rfl (Nat.le_of_ble_eq_true rfl) dL_shareOf_5 ⟨Nat.zero_le _, Nat.zero_le _⟩ ?_
  refine lv_i2l (v := (nI (vs_sh v s_ c_)).toInt64) hx hb dL_shareOf_8 rfl ?_
  refine hp_store hx hb hK hPx hPo hap hoa hS dL_shareOf_9 (fun H locs hPx hPo hS => ?_)
  refine lv_goto (tgt := 17) hx hb dL_shareOf_10 (by decide) ?_
  refine lv_iconst (v := nI (0)) hx hb dL_shareOf_17 (by decide) ?_
  exact hend _ _ _ _ _ _ (by decide) (by decide) dL_shareOf_18 hPx ⟨_, hPo, fun _ => rfl⟩ hS
set_option maxHeartbeats 4000000 in
set_option maxRecDepth 100000 in
theorem h_shareOf_x1 (l : Launch) (D : va_G) (κ : Nat → ClassId) (a : Nat → Nat) (v : VS) (hv : ok_v v) (hap : ap_ a 9) (hls : l.stackTraces = false) (o : Nat) (hoa : ¬ xa_ a o) (w : Nat → Int64) (r9 : Int64) (x : Int32) (y : Int32) (hx0 : ix_ x (vs_n v) = false) : Hp l yL_shareOf cL_shareOf 5 [(0, 10, 13, 24)] 8 125 (Ph_ D κ a v (ol_ κ o w) [.ref (a 0), .int (x), .int (y), .ref (o)]) D κ a o v 1 (Pl_ D κ o 1 (r9)) := by
  refine hp_intro (by decide +kernel) rfl (Nat.le_of_ble_eq_true rfl) ?_
  intro p e s m args below meth c ls Qq hx hb hml hown hts hK hKx hPx hPo hS hT htab hend hl
  have hl : lv_has ls 5 [(0, .ref (a 0)), (1, .int (x)), (2, .int (y)), (3, .ref (o))] := hl
  refine lv_aload_n hx hb dL_shareOf_0 rfl (lv_at hl 3 rfl) ?_
  refine lv_iconst (v := nI (0)) hx hb dL_shareOf_1 (by decide) ?_
  refine lv_aload_n hx hb dL_shareOf_2 rfl (lv_at hl 0 rfl) ?_
  refine lv_iload_n hx hb dL_shareOf_3 rfl (lv_at hl 1 rfl) ?_
  refine lv_iload_n hx hb dL_shareOf_4 rfl (lv_at hl 2 rfl) ?_
  refine tx_catch (rest := [.int (nI (0)), .ref (o)]) ⟨hx, hb, hml, hown, hts⟩ (c_X0_shareOf_x1 l D κ a v hv hls (x) (y) (hx0)) g_L_47 n_X0_shareOf ⟨Nat.le_of_ble_eq_true rfl, Nat.le_of_ble_eq_true rfl⟩ hKx hPx (Thr_of hT) rfl rfl rfl hl.1 rfl (Nat.le_of_ble_eq_true rfl) dL_shareOf_5 ⟨Nat.le_of_ble_eq_true rfl, Nat.le_of_ble_eq_true rfl⟩ [] ⟨0, 10, 13, 24⟩ [] htab (fun z hz => absurd hz List.not_mem_nil) (by decide) (by decide) (hts _ q_cl_L_24) q_face_IOB (fun q9 H hz hk => ?_)
  have hPx : va_P D vwCl (xw κ a v) H := xw_kept hPx hk
  have hPo : va_P D vwCl (ol_ κ o w) H := xw_kept hPo hk
  have hS : va_S (xo_ a o) s.heap H [] := ⟨hz, fun q h1 _ => hk q h1, fun _ h => absurd h List.not_mem_nil⟩
  refine lv_astore (lv' := [(4, .ref (q9)), (0, .ref (a 0)), (1, .int (x)), (2, .int (y)), (3, .ref (o))]) hx hb dL_shareOf_13 hl (by decide) rfl (fun ls hl => ?_)
  refine lv_iconst (v := nI (1)) hx hb dL_shareOf_15 (by decide) ?_
  exact hend _ _ _ _ _ _ (by decide) (by decide) dL_shareOf_16 hPx ⟨_, hPo, fun z => absurd z (by decide)⟩ hS
set_option maxHeartbeats 4000000 in
set_option maxRecDepth 100000 in
theorem h_shareOf_x2 (l : Launch) (D : va_G) (κ : Nat → ClassId) (a : Nat → Nat) (v : VS) (hv : ok_v v) (hap : ap_ a 9) (hls : l.stackTraces = false) (o : Nat) (hoa : ¬ xa_ a o) (w : Nat → Int64) (r9 : Int64) (s_ : Nat) (y : Int32) (hs : s_ < vs_n v) (hx0 : ix_ y (vs_c v) = false) : Hp l yL_shareOf cL_shareOf 5 [(0, 10, 13, 24)] 8 125 (Ph_ D κ a v (ol_ κ o w) [.ref (a 0), .int (nI (s_)), .int (y), .ref (o)]) D κ a o v 1 (Pl_ D κ o 1 (r9)) := by
  refine hp_intro (by decide +kernel) rfl (Nat.le_of_ble_eq_true rfl) ?_
  intro p e s m args below meth c ls Qq hx hb hml hown hts hK hKx hPx hPo hS hT htab hend hl
  have hl : lv_has ls 5 [(0, .ref (a 0)), (1, .int (nI (s_))), (2, .int (y)), (3, .ref (o))] := hl
  refine lv_aload_n hx hb dL_shareOf_0 rfl (lv_at hl 3 rfl) ?_
  refine lv_iconst (v := nI (0)) hx hb dL_shareOf_1 (by decide) ?_
  refine lv_aload_n hx hb dL_shareOf_2 rfl (lv_at hl 0 rfl) ?_
  refine lv_iload_n hx hb dL_shareOf_3 rfl (lv_at hl 1 rfl) ?_
  refine lv_iload_n hx hb dL_shareOf_4 rfl (lv_at hl 2 rfl) ?_
  refine tx_catch (rest := [.int (nI (0)), .ref (o)]) ⟨hx, hb, hml, hown, hts⟩ (c_X0_shareOf_x2 l D κ a v hv hls (s_) (y) (hs) (hx0)) g_L_47 n_X0_shareOf ⟨Nat.le_of_ble_eq_true rfl, Nat.le_of_ble_eq_true rfl⟩ hKx hPx (Thr_of hT) rfl rfl rfl hl.1 rfl (Nat.le_of_ble_eq_true rfl) dL_shareOf_5 ⟨Nat.le_of_ble_eq_true rfl, Nat.le_of_ble_eq_true rfl⟩ [] ⟨0, 10, 13, 24⟩ [] htab (fun z hz => absurd hz List.not_mem_nil) (by decide) (by decide) (hts _ q_cl_L_24) q_face_IOB (fun q9 H hz hk => ?_)
  have hPx : va_P D vwCl (xw κ a v) H := xw_kept hPx hk
  have hPo : va_P D vwCl (ol_ κ o w) H := xw_kept hPo hk
  have hS : va_S (xo_ a o) s.heap H [] := ⟨hz, fun q h1 _ => hk q h1, fun _ h => absurd h List.not_mem_nil⟩
  refine lv_astore (lv' := [(4, .ref (q9)), (0, .ref (a 0)), (1, .int (nI (s_))), (2, .int (y)), (3, .ref (o))]) hx hb dL_shareOf_13 hl (by decide) rfl (fun ls hl => ?_)
  refine lv_iconst (v := nI (1)) hx hb dL_shareOf_15 (by decide) ?_
  exact hend _ _ _ _ _ _ (by decide) (by decide) dL_shareOf_16 hPx ⟨_, hPo, fun z => absurd z (by decide)⟩ hS
set_option maxHeartbeats 4000000 in
set_option maxRecDepth 100000 in
theorem h_weightOf_ok (l : Launch) (D : va_G) (κ : Nat → ClassId) (a : Nat → Nat) (v : VS) (hv : ok_v v) (hap : ap_ a 9) (hls : l.stackTraces = false) (o : Nat) (hoa : ¬ xa_ a o) (w : Nat → Int64) (s_ : Nat) (c_ : Nat) (hs : s_ < vs_n v) (hc : c_ < vs_c v) : Hp l yL_weightOf cL_weightOf 5 [(0, 9, 12, 24)] 8 125 (Ph_ D κ a v (ol_ κ o w) [.ref (a 0), .int (nI (s_)), .int (nI (c_)), .ref (o)]) D κ a o v 0 (Pl_ D κ o 0 (lN (pr_ v s_ c_ (hh_ v) (tt_ v)))) := by
  refine hp_intro (by decide +kernel) rfl (Nat.le_of_ble_eq_true rfl) ?_
  intro p e s m args below meth c ls Qq hx hb hml hown hts hK hKx hPx hPo hS hT htab hend hl
  have hl : lv_has ls 5 [(0, .ref (a 0)), (1, .int (nI (s_))), (2, .int (nI (c_))), (3, .ref (o))] := hl
  obtain ⟨hv1, hv2, hv3, hv4, hv5, hv6⟩ := id hv
  refine lv_aload_n hx hb dL_weightOf_0 rfl (lv_at hl 3 rfl) ?_
  refine lv_iconst (v := nI (0)) hx hb dL_weightOf_1 (by decide) ?_
  refine lv_aload_n hx hb dL_weightOf_2 rfl (lv_at hl 0 rfl) ?_
  refine lv_iload_n hx hb dL_weightOf_3 rfl (lv_at hl 1 rfl) ?_
  refine lv_iload_n hx hb dL_weightOf_4 rfl (lv_at hl 2 rfl) ?_
  refine rd_V (rest := [.int (nI (0)), .ref (o)]) ⟨hx, hb, hml, hown, hts⟩ (c_X0_weightOf l D κ a v hv (s_) (c_) (hs) (hc)) g_L_51 n_X0_weightOf ⟨Nat.le_of_ble_eq_true rfl, Nat.le_of_ble_eq_true rfl⟩ hKx hPx rfl rfl rfl hl.1 rfl (Nat.le_of_ble_eq_true rfl) dL_weightOf_5 ⟨Nat.zero_le _, Nat.zero_le _⟩ ?_
  refine hp_store hx hb hK hPx hPo hap hoa hS dL_weightOf_8 (fun H locs hPx hPo hS => ?_)
  refine lv_goto (tgt := 16) hx hb dL_weightOf_9 (by decide) ?_
  refine lv_iconst (v := nI (0)) hx hb dL_weightOf_16 (by decide) ?_
  exact hend _ _ _ _ _ _ (by decide) (by decide) dL_weightOf_17 hPx ⟨_, hPo, fun _ => rfl⟩ hS
set_option maxHeartbeats 4000000 in
set_option maxRecDepth 100000 in
theorem h_weightOf_x1 (l : Launch) (D : va_G) (κ : Nat → ClassId) (a : Nat → Nat) (v : VS) (hv : ok_v v) (hap : ap_ a 9) (hls : l.stackTraces = false) (o : Nat) (hoa : ¬ xa_ a o) (w : Nat → Int64) (r9 : Int64) (x : Int32) (y : Int32) (hx0 : ix_ x (vs_n v) = false) : Hp l yL_weightOf cL_weightOf 5 [(0, 9, 12, 24)] 8 125 (Ph_ D κ a v (ol_ κ o w) [.ref (a 0), .int (x), .int (y), .ref (o)]) D κ a o v 1 (Pl_ D κ o 1 (r9)) := by
  refine hp_intro (by decide +kernel) rfl (Nat.le_of_ble_eq_true rfl) ?_
  intro p e s m args below meth c ls Qq hx hb hml hown hts hK hKx hPx hPo hS hT htab hend hl
  have hl : lv_has ls 5 [(0, .ref (a 0)), (1, .int (x)), (2, .int (y)), (3, .ref (o))] := hl
  refine lv_aload_n hx hb dL_weightOf_0 rfl (lv_at hl 3 rfl) ?_
  refine lv_iconst (v := nI (0)) hx hb dL_weightOf_1 (by decide) ?_
  refine lv_aload_n hx hb dL_weightOf_2 rfl (lv_at hl 0 rfl) ?_
  refine lv_iload_n hx hb dL_weightOf_3 rfl (lv_at hl 1 rfl) ?_
  refine lv_iload_n hx hb dL_weightOf_4 rfl (lv_at hl 2 rfl) ?_
  refine tx_catch (rest := [.int (nI (0)), .ref (o)]) ⟨hx, hb, hml, hown, hts⟩ (c_X0_weightOf_x1 l D κ a v hv hls (x) (y) (hx0)) g_L_51 n_X0_weightOf ⟨Nat.le_of_ble_eq_true rfl, Nat.le_of_ble_eq_true rfl⟩ hKx hPx (Thr_of hT) rfl rfl rfl hl.1 rfl (Nat.le_of_ble_eq_true rfl) dL_weightOf_5 ⟨Nat.le_of_ble_eq_true rfl, Nat.le_of_ble_eq_true rfl⟩ [] ⟨0, 9, 12, 24⟩ [] htab (fun z hz => absurd hz List.not_mem_nil) (by decide) (by decide) (hts _ q_cl_L_24) q_face_IOB (fun q9 H hz hk => ?_)
  have hPx : va_P D vwCl (xw κ a v) H := xw_kept hPx hk
  have hPo : va_P D vwCl (ol_ κ o w) H := xw_kept hPo hk
  have hS : va_S (xo_ a o) s.heap H [] := ⟨hz, fun q h1 _ => hk q h1, fun _ h => absurd h List.not_mem_nil⟩
  refine lv_astore (lv' := [(4, .ref (q9)), (0, .ref (a 0)), (1, .int (x)), (2, .int (y)), (3, .ref (o))]) hx hb dL_weightOf_12 hl (by decide) rfl (fun ls hl => ?_)
  refine lv_iconst (v := nI (1)) hx hb dL_weightOf_14 (by decide) ?_
  exact hend _ _ _ _ _ _ (by decide) (by decide) dL_weightOf_15 hPx ⟨_, hPo, fun z => absurd z (by decide)⟩ hS
set_option maxHeartbeats 4000000 in
set_option maxRecDepth 100000 in
theorem h_weightOf_x2 (l : Launch) (D : va_G) (κ : Nat → ClassId) (a : Nat → Nat) (v : VS) (hv : ok_v v) (hap : ap_ a 9) (hls : l.stackTraces = false) (o : Nat) (hoa : ¬ xa_ a o) (w : Nat → Int64) (r9 : Int64) (s_ : Nat) (y : Int32) (hs : s_ < vs_n v) (hx0 : ix_ y (vs_c v) = false) : Hp l yL_weightOf cL_weightOf 5 [(0, 9, 12, 24)] 8 125 (Ph_ D κ a v (ol_ κ o w) [.ref (a 0), .int (nI (s_)), .int (y), .ref (o)]) D κ a o v 1 (Pl_ D κ o 1 (r9)) := by
  refine hp_intro (by decide +kernel) rfl (Nat.le_of_ble_eq_true rfl) ?_
  intro p e s m args below meth c ls Qq hx hb hml hown hts hK hKx hPx hPo hS hT htab hend hl
  have hl : lv_has ls 5 [(0, .ref (a 0)), (1, .int (nI (s_))), (2, .int (y)), (3, .ref (o))] := hl
  refine lv_aload_n hx hb dL_weightOf_0 rfl (lv_at hl 3 rfl) ?_
  refine lv_iconst (v := nI (0)) hx hb dL_weightOf_1 (by decide) ?_
  refine lv_aload_n hx hb dL_weightOf_2 rfl (lv_at hl 0 rfl) ?_
  refine lv_iload_n hx hb dL_weightOf_3 rfl (lv_at hl 1 rfl) ?_
  refine lv_iload_n hx hb dL_weightOf_4 rfl (lv_at hl 2 rfl) ?_
  refine tx_catch (rest := [.int (nI (0)), .ref (o)]) ⟨hx, hb, hml, hown, hts⟩ (c_X0_weightOf_x2 l D κ a v hv hls (s_) (y) (hs) (hx0)) g_L_51 n_X0_weightOf ⟨Nat.le_of_ble_eq_true rfl, Nat.le_of_ble_eq_true rfl⟩ hKx hPx (Thr_of hT) rfl rfl rfl hl.1 rfl (Nat.le_of_ble_eq_true rfl) dL_weightOf_5 ⟨Nat.le_of_ble_eq_true rfl, Nat.le_of_ble_eq_true rfl⟩ [] ⟨0, 9, 12, 24⟩ [] htab (fun z hz => absurd hz List.not_mem_nil) (by decide) (by decide) (hts _ q_cl_L_24) q_face_IOB (fun q9 H hz hk => ?_)
  have hPx : va_P D vwCl (xw κ a v) H := xw_kept hPx hk
  have hPo : va_P D vwCl (ol_ κ o w) H := xw_kept hPo hk
  have hS : va_S (xo_ a o) s.heap H [] := ⟨hz, fun q h1 _ => hk q h1, fun _ h => absurd h List.not_mem_nil⟩
  refine lv_astore (lv' := [(4, .ref (q9)), (0, .ref (a 0)), (1, .int (nI (s_))), (2, .int (y)), (3, .ref (o))]) hx hb dL_weightOf_12 hl (by decide) rfl (fun ls hl => ?_)
  refine lv_iconst (v := nI (1)) hx hb dL_weightOf_14 (by decide) ?_
  exact hend _ _ _ _ _ _ (by decide) (by decide) dL_weightOf_15 hPx ⟨_, hPo, fun z => absurd z (by decide)⟩ hS
set_option maxHeartbeats 4000000 in
set_option maxRecDepth 100000 in
theorem h_coinWeight_ok (l : Launch) (D : va_G) (κ : Nat → ClassId) (a : Nat → Nat) (v : VS) (hv : ok_v v) (hap : ap_ a 9) (hls : l.stackTraces = false) (o : Nat) (hoa : ¬ xa_ a o) (w : Nat → Int64) (c_ : Nat) (hc : c_ < vs_c v) : Hp l yL_coinWeight cL_coinWeight 4 [(0, 8, 11, 24)] 8 124 (Ph_ D κ a v (ol_ κ o w) [.ref (a 0), .int (nI (c_)), .ref (o)]) D κ a o v 0 (Pl_ D κ o 0 (lN (wt_ v c_ (hh_ v) (tt_ v)))) := by
  refine hp_intro (by decide +kernel) rfl (Nat.le_of_ble_eq_true rfl) ?_
  intro p e s m args below meth c ls Qq hx hb hml hown hts hK hKx hPx hPo hS hT htab hend hl
  have hl : lv_has ls 4 [(0, .ref (a 0)), (1, .int (nI (c_))), (2, .ref (o))] := hl
  obtain ⟨hv1, hv2, hv3, hv4, hv5, hv6⟩ := id hv
  refine lv_aload_n hx hb dL_coinWeight_0 rfl (lv_at hl 2 rfl) ?_
  refine lv_iconst (v := nI (0)) hx hb dL_coinWeight_1 (by decide) ?_
  refine lv_aload_n hx hb dL_coinWeight_2 rfl (lv_at hl 0 rfl) ?_
  refine lv_iload_n hx hb dL_coinWeight_3 rfl (lv_at hl 1 rfl) ?_
  refine rd_V (rest := [.int (nI (0)), .ref (o)]) ⟨hx, hb, hml, hown, hts⟩ (c_X0_coinWeight l D κ a v hv (c_) (hc)) g_L_55 n_X0_coinWeight ⟨Nat.le_of_ble_eq_true rfl, Nat.le_of_ble_eq_true rfl⟩ hKx hPx rfl rfl rfl hl.1 rfl (Nat.le_of_ble_eq_true rfl) dL_coinWeight_4 ⟨Nat.zero_le _, Nat.zero_le _⟩ ?_
  refine hp_store hx hb hK hPx hPo hap hoa hS dL_coinWeight_7 (fun H locs hPx hPo hS => ?_)
  refine lv_goto (tgt := 14) hx hb dL_coinWeight_8 (by decide) ?_
  refine lv_iconst (v := nI (0)) hx hb dL_coinWeight_14 (by decide) ?_
  exact hend _ _ _ _ _ _ (by decide) (by decide) dL_coinWeight_15 hPx ⟨_, hPo, fun _ => rfl⟩ hS
set_option maxHeartbeats 4000000 in
set_option maxRecDepth 100000 in
theorem h_coinWeight_x (l : Launch) (D : va_G) (κ : Nat → ClassId) (a : Nat → Nat) (v : VS) (hv : ok_v v) (hap : ap_ a 9) (hls : l.stackTraces = false) (o : Nat) (hoa : ¬ xa_ a o) (w : Nat → Int64) (r9 : Int64) (x : Int32) (hx0 : ix_ x (vs_c v) = false) : Hp l yL_coinWeight cL_coinWeight 4 [(0, 8, 11, 24)] 8 124 (Ph_ D κ a v (ol_ κ o w) [.ref (a 0), .int (x), .ref (o)]) D κ a o v 1 (Pl_ D κ o 1 (r9)) := by
  refine hp_intro (by decide +kernel) rfl (Nat.le_of_ble_eq_true rfl) ?_
  intro p e s m args below meth c ls Qq hx hb hml hown hts hK hKx hPx hPo hS hT htab hend hl
  have hl : lv_has ls 4 [(0, .ref (a 0)), (1, .int (x)), (2, .ref (o))] := hl
  refine lv_aload_n hx hb dL_coinWeight_0 rfl (lv_at hl 2 rfl) ?_
  refine lv_iconst (v := nI (0)) hx hb dL_coinWeight_1 (by decide) ?_
  refine lv_aload_n hx hb dL_coinWeight_2 rfl (lv_at hl 0 rfl) ?_
  refine lv_iload_n hx hb dL_coinWeight_3 rfl (lv_at hl 1 rfl) ?_
  refine tx_catch (rest := [.int (nI (0)), .ref (o)]) ⟨hx, hb, hml, hown, hts⟩ (c_X0_coinWeight_x l D κ a v hv hls (x) (hx0)) g_L_55 n_X0_coinWeight ⟨Nat.le_of_ble_eq_true rfl, Nat.le_of_ble_eq_true rfl⟩ hKx hPx (Thr_of hT) rfl rfl rfl hl.1 rfl (Nat.le_of_ble_eq_true rfl) dL_coinWeight_4 ⟨Nat.le_of_ble_eq_true rfl, Nat.le_of_ble_eq_true rfl⟩ [] ⟨0, 8, 11, 24⟩ [] htab (fun z hz => absurd hz List.not_mem_nil) (by decide) (by decide) (hts _ q_cl_L_24) q_face_IOB (fun q9 H hz hk => ?_)
  have hPx : va_P D vwCl (xw κ a v) H := xw_kept hPx hk
  have hPo : va_P D vwCl (ol_ κ o w) H := xw_kept hPo hk
  have hS : va_S (xo_ a o) s.heap H [] := ⟨hz, fun q h1 _ => hk q h1, fun _ h => absurd h List.not_mem_nil⟩
  refine lv_astore_n (lv' := [(3, .ref (q9)), (0, .ref (a 0)), (1, .int (x)), (2, .ref (o))]) hx hb dL_coinWeight_11 rfl hl (by decide) rfl (fun ls hl => ?_)
  refine lv_iconst (v := nI (1)) hx hb dL_coinWeight_12 (by decide) ?_
  exact hend _ _ _ _ _ _ (by decide) (by decide) dL_coinWeight_13 hPx ⟨_, hPo, fun z => absurd z (by decide)⟩ hS
set_option maxHeartbeats 4000000 in
set_option maxRecDepth 100000 in
theorem h_schoolWeight_ok (l : Launch) (D : va_G) (κ : Nat → ClassId) (a : Nat → Nat) (v : VS) (hv : ok_v v) (hap : ap_ a 9) (hls : l.stackTraces = false) (o : Nat) (hoa : ¬ xa_ a o) (w : Nat → Int64) (s_ : Nat) (hs : s_ < vs_n v) : Hp l yL_schoolWeight cL_schoolWeight 4 [(0, 8, 11, 24)] 8 124 (Ph_ D κ a v (ol_ κ o w) [.ref (a 0), .int (nI (s_)), .ref (o)]) D κ a o v 0 (Pl_ D κ o 0 (lN (sc_ v s_ (hh_ v) (tt_ v)))) := by
  refine hp_intro (by decide +kernel) rfl (Nat.le_of_ble_eq_true rfl) ?_
  intro p e s m args below meth c ls Qq hx hb hml hown hts hK hKx hPx hPo hS hT htab hend hl
  have hl : lv_has ls 4 [(0, .ref (a 0)), (1, .int (nI (s_))), (2, .ref (o))] := hl
  obtain ⟨hv1, hv2, hv3, hv4, hv5, hv6⟩ := id hv
  refine lv_aload_n hx hb dL_schoolWeight_0 rfl (lv_at hl 2 rfl) ?_
  refine lv_iconst (v := nI (0)) hx hb dL_schoolWeight_1 (by decide) ?_
  refine lv_aload_n hx hb dL_schoolWeight_2 rfl (lv_at hl 0 rfl) ?_
  refine lv_iload_n hx hb dL_schoolWeight_3 rfl (lv_at hl 1 rfl) ?_
  refine rd_V (rest := [.int (nI (0)), .ref (o)]) ⟨hx, hb, hml, hown, hts⟩ (c_X0_schoolWeight l D κ a v hv (s_) (hs)) g_L_59 n_X0_schoolWeight ⟨Nat.le_of_ble_eq_true rfl, Nat.le_of_ble_eq_true rfl⟩ hKx hPx rfl rfl rfl hl.1 rfl (Nat.le_of_ble_eq_true rfl) dL_schoolWeight_4 ⟨Nat.zero_le _, Nat.zero_le _⟩ ?_
  refine hp_store hx hb hK hPx hPo hap hoa hS dL_schoolWeight_7 (fun H locs hPx hPo hS => ?_)
  refine lv_goto (tgt := 14) hx hb dL_schoolWeight_8 (by decide) ?_
  refine lv_iconst (v := nI (0)) hx hb dL_schoolWeight_14 (by decide) ?_
  exact hend _ _ _ _ _ _ (by decide) (by decide) dL_schoolWeight_15 hPx ⟨_, hPo, fun _ => rfl⟩ hS
set_option maxHeartbeats 4000000 in
set_option maxRecDepth 100000 in
theorem h_schoolWeight_x (l : Launch) (D : va_G) (κ : Nat → ClassId) (a : Nat → Nat) (v : VS) (hv : ok_v v) (hap : ap_ a 9) (hls : l.stackTraces = false) (o : Nat) (hoa : ¬ xa_ a o) (w : Nat → Int64) (r9 : Int64) (x : Int32) (hx0 : ix_ x (vs_n v) = false) : Hp l yL_schoolWeight cL_schoolWeight 4 [(0, 8, 11, 24)] 8 124 (Ph_ D κ a v (ol_ κ o w) [.ref (a 0), .int (x), .ref (o)]) D κ a o v 1 (Pl_ D κ o 1 (r9)) := by
  refine hp_intro (by decide +kernel) rfl (Nat.le_of_ble_eq_true rfl) ?_
  intro p e s m args below meth c ls Qq hx hb hml hown hts hK hKx hPx hPo hS hT htab hend hl
  have hl : lv_has ls 4 [(0, .ref (a 0)), (1, .int (x)), (2, .ref (o))] := hl
  refine lv_aload_n hx hb dL_schoolWeight_0 rfl (lv_at hl 2 rfl) ?_
  refine lv_iconst (v := nI (0)) hx hb dL_schoolWeight_1 (by decide) ?_
  refine lv_aload_n hx hb dL_schoolWeight_2 rfl (lv_at hl 0 rfl) ?_
  refine lv_iload_n hx hb dL_schoolWeight_3 rfl (lv_at hl 1 rfl) ?_
  refine tx_catch (rest := [.int (nI (0)), .ref (o)]) ⟨hx, hb, hml, hown, hts⟩ (c_X0_schoolWeight_x l D κ a v hv hls (x) (hx0)) g_L_59 n_X0_schoolWeight ⟨Nat.le_of_ble_eq_true rfl, Nat.le_of_ble_eq_true rfl⟩ hKx hPx (Thr_of hT) rfl rfl rfl hl.1 rfl (Nat.le_of_ble_eq_true rfl) dL_schoolWeight_4 ⟨Nat.le_of_ble_eq_true rfl, Nat.le_of_ble_eq_true rfl⟩ [] ⟨0, 8, 11, 24⟩ [] htab (fun z hz => absurd hz List.not_mem_nil) (by decide) (by decide) (hts _ q_cl_L_24) q_face_IOB (fun q9 H hz hk => ?_)
  have hPx : va_P D vwCl (xw κ a v) H := xw_kept hPx hk
  have hPo : va_P D vwCl (ol_ κ o w) H := xw_kept hPo hk
  have hS : va_S (xo_ a o) s.heap H [] := ⟨hz, fun q h1 _ => hk q h1, fun _ h => absurd h List.not_mem_nil⟩
  refine lv_astore_n (lv' := [(3, .ref (q9)), (0, .ref (a 0)), (1, .int (x)), (2, .ref (o))]) hx hb dL_schoolWeight_11 rfl hl (by decide) rfl (fun ls hl => ?_)
  refine lv_iconst (v := nI (1)) hx hb dL_schoolWeight_12 (by decide) ?_
  exact hend _ _ _ _ _ _ (by decide) (by decide) dL_schoolWeight_13 hPx ⟨_, hPo, fun z => absurd z (by decide)⟩ hS
set_option maxHeartbeats 4000000 in
set_option maxRecDepth 100000 in
theorem h_isRuledOut_ok (l : Launch) (D : va_G) (κ : Nat → ClassId) (a : Nat → Nat) (v : VS) (hv : ok_v v) (hap : ap_ a 9) (hls : l.stackTraces = false) (o : Nat) (hoa : ¬ xa_ a o) (w : Nat → Int64) (c_ : Nat) (hc : c_ < vs_c v) : Hp l yL_isRuledOut cL_isRuledOut 4 [(0, 16, 19, 24)] 8 124 (Ph_ D κ a v (ol_ κ o w) [.ref (a 0), .int (nI (c_)), .ref (o)]) D κ a o v 0 (Pl_ D κ o 0 ((bI (decide (wt_ v c_ (hh_ v) (tt_ v) = 0))).toInt64)) := by
  refine hp_intro (by decide +kernel) rfl (Nat.le_of_ble_eq_true rfl) ?_
  intro p e s m args below meth c ls Qq hx hb hml hown hts hK hKx hPx hPo hS hT htab hend hl
  have hl : lv_has ls 4 [(0, .ref (a 0)), (1, .int (nI (c_))), (2, .ref (o))] := hl
  obtain ⟨hv1, hv2, hv3, hv4, hv5, hv6⟩ := id hv
  refine lv_aload_n hx hb dL_isRuledOut_0 rfl (lv_at hl 2 rfl) ?_
  refine lv_iconst (v := nI (0)) hx hb dL_isRuledOut_1 (by decide) ?_
  refine lv_aload_n hx hb dL_isRuledOut_2 rfl (lv_at hl 0 rfl) ?_
  refine lv_iload_n hx hb dL_isRuledOut_3 rfl (lv_at hl 1 rfl) ?_
  refine rd_V (rest := [.int (nI (0)), .ref (o)]) ⟨hx, hb, hml, hown, hts⟩ (c_X0_isRuledOut l D κ a v hv (c_) (hc)) g_L_62 n_X0_isRuledOut ⟨Nat.le_of_ble_eq_true rfl, Nat.le_of_ble_eq_true rfl⟩ hKx hPx rfl rfl rfl hl.1 rfl (Nat.le_of_ble_eq_true rfl) dL_isRuledOut_4 ⟨Nat.zero_le _, Nat.zero_le _⟩ ?_
  refine bv_if_eq (tgt := 14) hx hb dL_isRuledOut_7 (by decide) (fun c_7 => ?_) (fun c_7 => ?_)
  · refine lv_lconst (v := lN (0)) hx hb dL_isRuledOut_14 (by decide) ?_
    refine nv_topl (show (lN (0) : Int64) = (bI (decide (wt_ v c_ (hh_ v) (tt_ v) = 0))).toInt64 from by rw [c_7]; rfl) ?_
    refine hp_store hx hb hK hPx hPo hap hoa hS dL_isRuledOut_15 (fun H locs hPx hPo hS => ?_)
    refine lv_goto (tgt := 22) hx hb dL_isRuledOut_16 (by decide) ?_
    refine lv_iconst (v := nI (0)) hx hb dL_isRuledOut_22 (by decide) ?_
    exact hend _ _ _ _ _ _ (by decide) (by decide) dL_isRuledOut_23 hPx ⟨_, hPo, fun _ => rfl⟩ hS
  · refine lv_lconst (v := lN (1)) hx hb dL_isRuledOut_10 (by decide) ?_
    refine lv_goto (tgt := 15) hx hb dL_isRuledOut_11 (by decide) ?_
    refine nv_topl (show (lN (1) : Int64) = (bI (decide (wt_ v c_ (hh_ v) (tt_ v) = 0))).toInt64 from by rw [c_7]; rfl) ?_
    refine hp_store hx hb hK hPx hPo hap hoa hS dL_isRuledOut_15 (fun H locs hPx hPo hS => ?_)
    refine lv_goto (tgt := 22) hx hb dL_isRuledOut_16 (by decide) ?_
    refine lv_iconst (v := nI (0)) hx hb dL_isRuledOut_22 (by decide) ?_
    exact hend _ _ _ _ _ _ (by decide) (by decide) dL_isRuledOut_23 hPx ⟨_, hPo, fun _ => rfl⟩ hS
set_option maxHeartbeats 4000000 in
set_option maxRecDepth 100000 in
theorem h_isRuledOut_x (l : Launch) (D : va_G) (κ : Nat → ClassId) (a : Nat → Nat) (v : VS) (hv : ok_v v) (hap : ap_ a 9) (hls : l.stackTraces = false) (o : Nat) (hoa : ¬ xa_ a o) (w : Nat → Int64) (r9 : Int64) (x : Int32) (hx0 : ix_ x (vs_c v) = false) : Hp l yL_isRuledOut cL_isRuledOut 4 [(0, 16, 19, 24)] 8 124 (Ph_ D κ a v (ol_ κ o w) [.ref (a 0), .int (x), .ref (o)]) D κ a o v 1 (Pl_ D κ o 1 (r9)) := by
  refine hp_intro (by decide +kernel) rfl (Nat.le_of_ble_eq_true rfl) ?_
  intro p e s m args below meth c ls Qq hx hb hml hown hts hK hKx hPx hPo hS hT htab hend hl
  have hl : lv_has ls 4 [(0, .ref (a 0)), (1, .int (x)), (2, .ref (o))] := hl
  refine lv_aload_n hx hb dL_isRuledOut_0 rfl (lv_at hl 2 rfl) ?_
  refine lv_iconst (v := nI (0)) hx hb dL_isRuledOut_1 (by decide) ?_
  refine lv_aload_n hx hb dL_isRuledOut_2 rfl (lv_at hl 0 rfl) ?_
  refine lv_iload_n hx hb dL_isRuledOut_3 rfl (lv_at hl 1 rfl) ?_
  refine tx_catch (rest := [.int (nI (0)), .ref (o)]) ⟨hx, hb, hml, hown, hts⟩ (c_X0_isRuledOut_x l D κ a v hv hls (x) (hx0)) g_L_62 n_X0_isRuledOut ⟨Nat.le_of_ble_eq_true rfl, Nat.le_of_ble_eq_true rfl⟩ hKx hPx (Thr_of hT) rfl rfl rfl hl.1 rfl (Nat.le_of_ble_eq_true rfl) dL_isRuledOut_4 ⟨Nat.le_of_ble_eq_true rfl, Nat.le_of_ble_eq_true rfl⟩ [] ⟨0, 16, 19, 24⟩ [] htab (fun z hz => absurd hz List.not_mem_nil) (by decide) (by decide) (hts _ q_cl_L_24) q_face_IOB (fun q9 H hz hk => ?_)
  have hPx : va_P D vwCl (xw κ a v) H := xw_kept hPx hk
  have hPo : va_P D vwCl (ol_ κ o w) H := xw_kept hPo hk
  have hS : va_S (xo_ a o) s.heap H [] := ⟨hz, fun q h1 _ => hk q h1, fun _ h => absurd h List.not_mem_nil⟩
  refine lv_astore_n (lv' := [(3, .ref (q9)), (0, .ref (a 0)), (1, .int (x)), (2, .ref (o))]) hx hb dL_isRuledOut_19 rfl hl (by decide) rfl (fun ls hl => ?_)
  refine lv_iconst (v := nI (1)) hx hb dL_isRuledOut_20 (by decide) ?_
  exact hend _ _ _ _ _ _ (by decide) (by decide) dL_isRuledOut_21 hPx ⟨_, hPo, fun z => absurd z (by decide)⟩ hS
set_option maxHeartbeats 4000000 in
set_option maxRecDepth 100000 in
theorem h_coinPercent_ok (l : Launch) (D : va_G) (κ : Nat → ClassId) (a : Nat → Nat) (v : VS) (hv : ok_v v) (hap : ap_ a 9) (hls : l.stackTraces = false) (o : Nat) (hoa : ¬ xa_ a o) (w : Nat → Int64) (c_ : Nat) (hc : c_ < vs_c v) (hw : 0 < wl_ v (hh_ v) (tt_ v)) : Hp l yL_coinPercent cL_coinPercent 4 [(0, 9, 12, 24), (0, 9, 15, 15)] 8 126 (Ph_ D κ a v (ol_ κ o w) [.ref (a 0), .int (nI (c_)), .ref (o)]) D κ a o v 0 (Pl_ D κ o 0 ((nI (wt_ v c_ (hh_ v) (tt_ v) * 100 / wl_ v (hh_ v) (tt_ v))).toInt64)) := by
  refine hp_intro (by decide +kernel) rfl (Nat.le_of_ble_eq_true rfl) ?_
  intro p e s m args below meth c ls Qq hx hb hml hown hts hK hKx hPx hPo hS hT htab hend hl
  have hl : lv_has ls 4 [(0, .ref (a 0)), (1, .int (nI (c_))), (2, .ref (o))] := hl
  obtain ⟨hv1, hv2, hv3, hv4, hv5, hv6⟩ := id hv
  refine lv_aload_n hx hb dL_coinPercent_0 rfl (lv_at hl 2 rfl) ?_
  refine lv_iconst (v := nI (0)) hx hb dL_coinPercent_1 (by decide) ?_
  refine lv_aload_n hx hb dL_coinPercent_2 rfl (lv_at hl 0 rfl) ?_
  refine lv_iload_n hx hb dL_coinPercent_3 rfl (lv_at hl 1 rfl) ?_
  refine rd_V (rest := [.int (nI (0)), .ref (o)]) ⟨hx, hb, hml, hown, hts⟩ (c_X0_coinPercent l D κ a v hv (c_) (hc) (hw)) g_L_65 n_X0_coinPercent ⟨Nat.le_of_ble_eq_true rfl, Nat.le_of_ble_eq_true rfl⟩ hKx hPx rfl rfl rfl hl.1 rfl (Nat.le_of_ble_eq_true rfl) dL_coinPercent_4 ⟨Nat.zero_le _, Nat.zero_le _⟩ ?_
  refine lv_i2l (v := (nI (wt_ v c_ (hh_ v) (tt_ v) * 100 / wl_ v (hh_ v) (tt_ v))).toInt64) hx hb dL_coinPercent_7 rfl ?_
  refine hp_store hx hb hK hPx hPo hap hoa hS dL_coinPercent_8 (fun H locs hPx hPo hS => ?_)
  refine lv_goto (tgt := 18) hx hb dL_coinPercent_9 (by decide) ?_
  refine lv_iconst (v := nI (0)) hx hb dL_coinPercent_18 (by decide) ?_
  exact hend _ _ _ _ _ _ (by decide) (by decide) dL_coinPercent_19 hPx ⟨_, hPo, fun _ => rfl⟩ hS
set_option maxHeartbeats 4000000 in
set_option maxRecDepth 100000 in
theorem h_coinPercent_x1 (l : Launch) (D : va_G) (κ : Nat → ClassId) (a : Nat → Nat) (v : VS) (hv : ok_v v) (hap : ap_ a 9) (hls : l.stackTraces = false) (o : Nat) (hoa : ¬ xa_ a o) (w : Nat → Int64) (r9 : Int64) (x : Int32) (hx0 : ix_ x (vs_c v) = false) : Hp l yL_coinPercent cL_coinPercent 4 [(0, 9, 12, 24), (0, 9, 15, 15)] 8 126 (Ph_ D κ a v (ol_ κ o w) [.ref (a 0), .int (x), .ref (o)]) D κ a o v 1 (Pl_ D κ o 1 (r9)) := by
  refine hp_intro (by decide +kernel) rfl (Nat.le_of_ble_eq_true rfl) ?_
  intro p e s m args below meth c ls Qq hx hb hml hown hts hK hKx hPx hPo hS hT htab hend hl
  have hl : lv_has ls 4 [(0, .ref (a 0)), (1, .int (x)), (2, .ref (o))] := hl
  refine lv_aload_n hx hb dL_coinPercent_0 rfl (lv_at hl 2 rfl) ?_
  refine lv_iconst (v := nI (0)) hx hb dL_coinPercent_1 (by decide) ?_
  refine lv_aload_n hx hb dL_coinPercent_2 rfl (lv_at hl 0 rfl) ?_
  refine lv_iload_n hx hb dL_coinPercent_3 rfl (lv_at hl 1 rfl) ?_
  refine tx_catch (rest := [.int (nI (0)), .ref (o)]) ⟨hx, hb, hml, hown, hts⟩ (c_X0_coinPercent_x1 l D κ a v hv hls (x) (hx0)) g_L_65 n_X0_coinPercent ⟨Nat.le_of_ble_eq_true rfl, Nat.le_of_ble_eq_true rfl⟩ hKx hPx (Thr_of hT) rfl rfl rfl hl.1 rfl (Nat.le_of_ble_eq_true rfl) dL_coinPercent_4 ⟨Nat.le_of_ble_eq_true rfl, Nat.le_of_ble_eq_true rfl⟩ [] ⟨0, 9, 12, 24⟩ [⟨0, 9, 15, 15⟩] htab (fun z hz => absurd hz List.not_mem_nil) (by decide) (by decide) (hts _ q_cl_L_24) q_face_IOB (fun q9 H hz hk => ?_)
  have hPx : va_P D vwCl (xw κ a v) H := xw_kept hPx hk
  have hPo : va_P D vwCl (ol_ κ o w) H := xw_kept hPo hk
  have hS : va_S (xo_ a o) s.heap H [] := ⟨hz, fun q h1 _ => hk q h1, fun _ h => absurd h List.not_mem_nil⟩
  refine lv_astore_n (lv' := [(3, .ref (q9)), (0, .ref (a 0)), (1, .int (x)), (2, .ref (o))]) hx hb dL_coinPercent_12 rfl hl (by decide) rfl (fun ls hl => ?_)
  refine lv_iconst (v := nI (1)) hx hb dL_coinPercent_13 (by decide) ?_
  exact hend _ _ _ _ _ _ (by decide) (by decide) dL_coinPercent_14 hPx ⟨_, hPo, fun z => absurd z (by decide)⟩ hS
set_option maxHeartbeats 4000000 in
set_option maxRecDepth 100000 in
theorem h_coinPercent_x2 (l : Launch) (D : va_G) (κ : Nat → ClassId) (a : Nat → Nat) (v : VS) (hv : ok_v v) (hap : ap_ a 9) (hls : l.stackTraces = false) (o : Nat) (hoa : ¬ xa_ a o) (w : Nat → Int64) (r9 : Int64) (c_ : Nat) (hc : c_ < vs_c v) (hw0 : wl_ v (hh_ v) (tt_ v) = 0) : Hp l yL_coinPercent cL_coinPercent 4 [(0, 9, 12, 24), (0, 9, 15, 15)] 8 126 (Ph_ D κ a v (ol_ κ o w) [.ref (a 0), .int (nI (c_)), .ref (o)]) D κ a o v 2 (Pl_ D κ o 2 (r9)) := by
  refine hp_intro (by decide +kernel) rfl (Nat.le_of_ble_eq_true rfl) ?_
  intro p e s m args below meth c ls Qq hx hb hml hown hts hK hKx hPx hPo hS hT htab hend hl
  have hl : lv_has ls 4 [(0, .ref (a 0)), (1, .int (nI (c_))), (2, .ref (o))] := hl
  refine lv_aload_n hx hb dL_coinPercent_0 rfl (lv_at hl 2 rfl) ?_
  refine lv_iconst (v := nI (0)) hx hb dL_coinPercent_1 (by decide) ?_
  refine lv_aload_n hx hb dL_coinPercent_2 rfl (lv_at hl 0 rfl) ?_
  refine lv_iload_n hx hb dL_coinPercent_3 rfl (lv_at hl 1 rfl) ?_
  refine tx_catch (rest := [.int (nI (0)), .ref (o)]) ⟨hx, hb, hml, hown, hts⟩ (c_X0_coinPercent_x2 l D κ a v hv hls (c_) (hc) (hw0)) g_L_65 n_X0_coinPercent ⟨Nat.le_of_ble_eq_true rfl, Nat.le_of_ble_eq_true rfl⟩ hKx hPx (Thr_of hT) rfl rfl rfl hl.1 rfl (Nat.le_of_ble_eq_true rfl) dL_coinPercent_4 ⟨Nat.le_of_ble_eq_true rfl, Nat.le_of_ble_eq_true rfl⟩ [⟨0, 9, 12, 24⟩] ⟨0, 9, 15, 15⟩ [] htab (fun z hz => by rw [List.mem_singleton] at hz; subst hz; exact Or.inr ⟨by decide, _, hts _ q_cl_L_24, hT.2.2.2⟩) (by decide) (by decide) (hts _ q_cl_L_15) q_face_ISE (fun q9 H hz hk => ?_)
  have hPx : va_P D vwCl (xw κ a v) H := xw_kept hPx hk
  have hPo : va_P D vwCl (ol_ κ o w) H := xw_kept hPo hk
  have hS : va_S (xo_ a o) s.heap H [] := ⟨hz, fun q h1 _ => hk q h1, fun _ h => absurd h List.not_mem_nil⟩
  refine lv_astore_n (lv' := [(3, .ref (q9)), (0, .ref (a 0)), (1, .int (nI (c_))), (2, .ref (o))]) hx hb dL_coinPercent_15 rfl hl (by decide) rfl (fun ls hl => ?_)
  refine lv_iconst (v := nI (2)) hx hb dL_coinPercent_16 (by decide) ?_
  exact hend _ _ _ _ _ _ (by decide) (by decide) dL_coinPercent_17 hPx ⟨_, hPo, fun z => absurd z (by decide)⟩ hS
set_option maxHeartbeats 4000000 in
set_option maxRecDepth 100000 in
theorem h_schoolPercent_ok (l : Launch) (D : va_G) (κ : Nat → ClassId) (a : Nat → Nat) (v : VS) (hv : ok_v v) (hap : ap_ a 9) (hls : l.stackTraces = false) (o : Nat) (hoa : ¬ xa_ a o) (w : Nat → Int64) (s_ : Nat) (hs : s_ < vs_n v) (hw : 0 < wl_ v (hh_ v) (tt_ v)) : Hp l yL_schoolPercent cL_schoolPercent 4 [(0, 9, 12, 24), (0, 9, 15, 15)] 8 126 (Ph_ D κ a v (ol_ κ o w) [.ref (a 0), .int (nI (s_)), .ref (o)]) D κ a o v 0 (Pl_ D κ o 0 ((nI (sc_ v s_ (hh_ v) (tt_ v) * 100 / wl_ v (hh_ v) (tt_ v))).toInt64)) := by
  refine hp_intro (by decide +kernel) rfl (Nat.le_of_ble_eq_true rfl) ?_
  intro p e s m args below meth c ls Qq hx hb hml hown hts hK hKx hPx hPo hS hT htab hend hl
  have hl : lv_has ls 4 [(0, .ref (a 0)), (1, .int (nI (s_))), (2, .ref (o))] := hl
  obtain ⟨hv1, hv2, hv3, hv4, hv5, hv6⟩ := id hv
  refine lv_aload_n hx hb dL_schoolPercent_0 rfl (lv_at hl 2 rfl) ?_
  refine lv_iconst (v := nI (0)) hx hb dL_schoolPercent_1 (by decide) ?_
  refine lv_aload_n hx hb dL_schoolPercent_2 rfl (lv_at hl 0 rfl) ?_
  refine lv_iload_n hx hb dL_schoolPercent_3 rfl (lv_at hl 1 rfl) ?_
  refine rd_V (rest := [.int (nI (0)), .ref (o)]) ⟨hx, hb, hml, hown, hts⟩ (c_X0_schoolPercent l D κ a v hv (s_) (hs) (hw)) g_L_68 n_X0_schoolPercent ⟨Nat.le_of_ble_eq_true rfl, Nat.le_of_ble_eq_true rfl⟩ hKx hPx rfl rfl rfl hl.1 rfl (Nat.le_of_ble_eq_true rfl) dL_schoolPercent_4 ⟨Nat.zero_le _, Nat.zero_le _⟩ ?_
  refine lv_i2l (v := (nI (sc_ v s_ (hh_ v) (tt_ v) * 100 / wl_ v (hh_ v) (tt_ v))).toInt64) hx hb dL_schoolPercent_7 rfl ?_
  refine hp_store hx hb hK hPx hPo hap hoa hS dL_schoolPercent_8 (fun H locs hPx hPo hS => ?_)
  refine lv_goto (tgt := 18) hx hb dL_schoolPercent_9 (by decide) ?_
  refine lv_iconst (v := nI (0)) hx hb dL_schoolPercent_18 (by decide) ?_
  exact hend _ _ _ _ _ _ (by decide) (by decide) dL_schoolPercent_19 hPx ⟨_, hPo, fun _ => rfl⟩ hS
set_option maxHeartbeats 4000000 in
set_option maxRecDepth 100000 in
theorem h_schoolPercent_x1 (l : Launch) (D : va_G) (κ : Nat → ClassId) (a : Nat → Nat) (v : VS) (hv : ok_v v) (hap : ap_ a 9) (hls : l.stackTraces = false) (o : Nat) (hoa : ¬ xa_ a o) (w : Nat → Int64) (r9 : Int64) (x : Int32) (hx0 : ix_ x (vs_n v) = false) : Hp l yL_schoolPercent cL_schoolPercent 4 [(0, 9, 12, 24), (0, 9, 15, 15)] 8 126 (Ph_ D κ a v (ol_ κ o w) [.ref (a 0), .int (x), .ref (o)]) D κ a o v 1 (Pl_ D κ o 1 (r9)) := by
  refine hp_intro (by decide +kernel) rfl (Nat.le_of_ble_eq_true rfl) ?_
  intro p e s m args below meth c ls Qq hx hb hml hown hts hK hKx hPx hPo hS hT htab hend hl
  have hl : lv_has ls 4 [(0, .ref (a 0)), (1, .int (x)), (2, .ref (o))] := hl
  refine lv_aload_n hx hb dL_schoolPercent_0 rfl (lv_at hl 2 rfl) ?_
  refine lv_iconst (v := nI (0)) hx hb dL_schoolPercent_1 (by decide) ?_
  refine lv_aload_n hx hb dL_schoolPercent_2 rfl (lv_at hl 0 rfl) ?_
  refine lv_iload_n hx hb dL_schoolPercent_3 rfl (lv_at hl 1 rfl) ?_
  refine tx_catch (rest := [.int (nI (0)), .ref (o)]) ⟨hx, hb, hml, hown, hts⟩ (c_X0_schoolPercent_x1 l D κ a v hv hls (x) (hx0)) g_L_68 n_X0_schoolPercent ⟨Nat.le_of_ble_eq_true rfl, Nat.le_of_ble_eq_true rfl⟩ hKx hPx (Thr_of hT) rfl rfl rfl hl.1 rfl (Nat.le_of_ble_eq_true rfl) dL_schoolPercent_4 ⟨Nat.le_of_ble_eq_true rfl, Nat.le_of_ble_eq_true rfl⟩ [] ⟨0, 9, 12, 24⟩ [⟨0, 9, 15, 15⟩] htab (fun z hz => absurd hz List.not_mem_nil) (by decide) (by decide) (hts _ q_cl_L_24) q_face_IOB (fun q9 H hz hk => ?_)
  have hPx : va_P D vwCl (xw κ a v) H := xw_kept hPx hk
  have hPo : va_P D vwCl (ol_ κ o w) H := xw_kept hPo hk
  have hS : va_S (xo_ a o) s.heap H [] := ⟨hz, fun q h1 _ => hk q h1, fun _ h => absurd h List.not_mem_nil⟩
  refine lv_astore_n (lv' := [(3, .ref (q9)), (0, .ref (a 0)), (1, .int (x)), (2, .ref (o))]) hx hb dL_schoolPercent_12 rfl hl (by decide) rfl (fun ls hl => ?_)
  refine lv_iconst (v := nI (1)) hx hb dL_schoolPercent_13 (by decide) ?_
  exact hend _ _ _ _ _ _ (by decide) (by decide) dL_schoolPercent_14 hPx ⟨_, hPo, fun z => absurd z (by decide)⟩ hS
set_option maxHeartbeats 4000000 in
set_option maxRecDepth 100000 in
theorem h_schoolPercent_x2 (l : Launch) (D : va_G) (κ : Nat → ClassId) (a : Nat → Nat) (v : VS) (hv : ok_v v) (hap : ap_ a 9) (hls : l.stackTraces = false) (o : Nat) (hoa : ¬ xa_ a o) (w : Nat → Int64) (r9 : Int64) (s_ : Nat) (hs : s_ < vs_n v) (hw0 : wl_ v (hh_ v) (tt_ v) = 0) : Hp l yL_schoolPercent cL_schoolPercent 4 [(0, 9, 12, 24), (0, 9, 15, 15)] 8 126 (Ph_ D κ a v (ol_ κ o w) [.ref (a 0), .int (nI (s_)), .ref (o)]) D κ a o v 2 (Pl_ D κ o 2 (r9)) := by
  refine hp_intro (by decide +kernel) rfl (Nat.le_of_ble_eq_true rfl) ?_
  intro p e s m args below meth c ls Qq hx hb hml hown hts hK hKx hPx hPo hS hT htab hend hl
  have hl : lv_has ls 4 [(0, .ref (a 0)), (1, .int (nI (s_))), (2, .ref (o))] := hl
  refine lv_aload_n hx hb dL_schoolPercent_0 rfl (lv_at hl 2 rfl) ?_
  refine lv_iconst (v := nI (0)) hx hb dL_schoolPercent_1 (by decide) ?_
  refine lv_aload_n hx hb dL_schoolPercent_2 rfl (lv_at hl 0 rfl) ?_
  refine lv_iload_n hx hb dL_schoolPercent_3 rfl (lv_at hl 1 rfl) ?_
  refine tx_catch (rest := [.int (nI (0)), .ref (o)]) ⟨hx, hb, hml, hown, hts⟩ (c_X0_schoolPercent_x2 l D κ a v hv hls (s_) (hs) (hw0)) g_L_68 n_X0_schoolPercent ⟨Nat.le_of_ble_eq_true rfl, Nat.le_of_ble_eq_true rfl⟩ hKx hPx (Thr_of hT) rfl rfl rfl hl.1 rfl (Nat.le_of_ble_eq_true rfl) dL_schoolPercent_4 ⟨Nat.le_of_ble_eq_true rfl, Nat.le_of_ble_eq_true rfl⟩ [⟨0, 9, 12, 24⟩] ⟨0, 9, 15, 15⟩ [] htab (fun z hz => by rw [List.mem_singleton] at hz; subst hz; exact Or.inr ⟨by decide, _, hts _ q_cl_L_24, hT.2.2.2⟩) (by decide) (by decide) (hts _ q_cl_L_15) q_face_ISE (fun q9 H hz hk => ?_)
  have hPx : va_P D vwCl (xw κ a v) H := xw_kept hPx hk
  have hPo : va_P D vwCl (ol_ κ o w) H := xw_kept hPo hk
  have hS : va_S (xo_ a o) s.heap H [] := ⟨hz, fun q h1 _ => hk q h1, fun _ h => absurd h List.not_mem_nil⟩
  refine lv_astore_n (lv' := [(3, .ref (q9)), (0, .ref (a 0)), (1, .int (nI (s_))), (2, .ref (o))]) hx hb dL_schoolPercent_15 rfl hl (by decide) rfl (fun ls hl => ?_)
  refine lv_iconst (v := nI (2)) hx hb dL_schoolPercent_16 (by decide) ?_
  exact hend _ _ _ _ _ _ (by decide) (by decide) dL_schoolPercent_17 hPx ⟨_, hPo, fun z => absurd z (by decide)⟩ hS
set_option maxHeartbeats 4000000 in
set_option maxRecDepth 100000 in
theorem h_leadingCoin_ok (l : Launch) (D : va_G) (κ : Nat → ClassId) (a : Nat → Nat) (v : VS) (hv : ok_v v) (hap : ap_ a 9) (hls : l.stackTraces = false) (o : Nat) (hoa : ¬ xa_ a o) (w : Nat → Int64) (hw : 0 < wl_ v (hh_ v) (tt_ v)) : Hp l yL_leadingCoin cL_leadingCoin 3 [(0, 8, 11, 15)] 7 103 (Ph_ D κ a v (ol_ κ o w) [.ref (a 0), .ref (o)]) D κ a o v 0 (Pl_ D κ o 0 ((nI (ld_ v (hh_ v) (tt_ v) (vs_c v))).toInt64)) := by
  refine hp_intro (by decide +kernel) rfl (Nat.le_of_ble_eq_true rfl) ?_
  intro p e s m args below meth c ls Qq hx hb hml hown hts hK hKx hPx hPo hS hT htab hend hl
  have hl : lv_has ls 3 [(0, .ref (a 0)), (1, .ref (o))] := hl
  obtain ⟨hv1, hv2, hv3, hv4, hv5, hv6⟩ := id hv
  refine lv_aload_n hx hb dL_leadingCoin_0 rfl (lv_at hl 1 rfl) ?_
  refine lv_iconst (v := nI (0)) hx hb dL_leadingCoin_1 (by decide) ?_
  refine lv_aload_n hx hb dL_leadingCoin_2 rfl (lv_at hl 0 rfl) ?_
  refine rd_V (rest := [.int (nI (0)), .ref (o)]) ⟨hx, hb, hml, hown, hts⟩ (c_X0_leadingCoin l D κ a v hv  (hw)) g_L_71 n_X0_leadingCoin ⟨Nat.le_of_ble_eq_true rfl, Nat.le_of_ble_eq_true rfl⟩ hKx hPx rfl rfl rfl hl.1 rfl (Nat.le_of_ble_eq_true rfl) dL_leadingCoin_3 ⟨Nat.zero_le _, Nat.zero_le _⟩ ?_
  refine lv_i2l (v := (nI (ld_ v (hh_ v) (tt_ v) (vs_c v))).toInt64) hx hb dL_leadingCoin_6 rfl ?_
  refine hp_store hx hb hK hPx hPo hap hoa hS dL_leadingCoin_7 (fun H locs hPx hPo hS => ?_)
  refine lv_goto (tgt := 14) hx hb dL_leadingCoin_8 (by decide) ?_
  refine lv_iconst (v := nI (0)) hx hb dL_leadingCoin_14 (by decide) ?_
  exact hend _ _ _ _ _ _ (by decide) (by decide) dL_leadingCoin_15 hPx ⟨_, hPo, fun _ => rfl⟩ hS
set_option maxHeartbeats 4000000 in
set_option maxRecDepth 100000 in
theorem h_leadingCoin_x (l : Launch) (D : va_G) (κ : Nat → ClassId) (a : Nat → Nat) (v : VS) (hv : ok_v v) (hap : ap_ a 9) (hls : l.stackTraces = false) (o : Nat) (hoa : ¬ xa_ a o) (w : Nat → Int64) (r9 : Int64) (hw0 : wl_ v (hh_ v) (tt_ v) = 0) : Hp l yL_leadingCoin cL_leadingCoin 3 [(0, 8, 11, 15)] 7 103 (Ph_ D κ a v (ol_ κ o w) [.ref (a 0), .ref (o)]) D κ a o v 1 (Pl_ D κ o 1 (r9)) := by
  refine hp_intro (by decide +kernel) rfl (Nat.le_of_ble_eq_true rfl) ?_
  intro p e s m args below meth c ls Qq hx hb hml hown hts hK hKx hPx hPo hS hT htab hend hl
  have hl : lv_has ls 3 [(0, .ref (a 0)), (1, .ref (o))] := hl
  refine lv_aload_n hx hb dL_leadingCoin_0 rfl (lv_at hl 1 rfl) ?_
  refine lv_iconst (v := nI (0)) hx hb dL_leadingCoin_1 (by decide) ?_
  refine lv_aload_n hx hb dL_leadingCoin_2 rfl (lv_at hl 0 rfl) ?_
  refine tx_catch (rest := [.int (nI (0)), .ref (o)]) ⟨hx, hb, hml, hown, hts⟩ (c_X0_leadingCoin_x l D κ a v hv hls  (hw0)) g_L_71 n_X0_leadingCoin ⟨Nat.le_of_ble_eq_true rfl, Nat.le_of_ble_eq_true rfl⟩ hKx hPx (Thr_of hT) rfl rfl rfl hl.1 rfl (Nat.le_of_ble_eq_true rfl) dL_leadingCoin_3 ⟨Nat.le_of_ble_eq_true rfl, Nat.le_of_ble_eq_true rfl⟩ [] ⟨0, 8, 11, 15⟩ [] htab (fun z hz => absurd hz List.not_mem_nil) (by decide) (by decide) (hts _ q_cl_L_15) q_face_ISE (fun q9 H hz hk => ?_)
  have hPx : va_P D vwCl (xw κ a v) H := xw_kept hPx hk
  have hPo : va_P D vwCl (ol_ κ o w) H := xw_kept hPo hk
  have hS : va_S (xo_ a o) s.heap H [] := ⟨hz, fun q h1 _ => hk q h1, fun _ h => absurd h List.not_mem_nil⟩
  refine lv_astore_n (lv' := [(2, .ref (q9)), (0, .ref (a 0)), (1, .ref (o))]) hx hb dL_leadingCoin_11 rfl hl (by decide) rfl (fun ls hl => ?_)
  refine lv_iconst (v := nI (1)) hx hb dL_leadingCoin_12 (by decide) ?_
  exact hend _ _ _ _ _ _ (by decide) (by decide) dL_leadingCoin_13 hPx ⟨_, hPo, fun z => absurd z (by decide)⟩ hS
set_option maxHeartbeats 4000000 in
set_option maxRecDepth 100000 in
theorem h_leadingSchool_ok (l : Launch) (D : va_G) (κ : Nat → ClassId) (a : Nat → Nat) (v : VS) (hv : ok_v v) (hap : ap_ a 9) (hls : l.stackTraces = false) (o : Nat) (hoa : ¬ xa_ a o) (w : Nat → Int64) (hw : 0 < wl_ v (hh_ v) (tt_ v)) : Hp l yL_leadingSchool cL_leadingSchool 3 [(0, 8, 11, 15)] 7 108 (Ph_ D κ a v (ol_ κ o w) [.ref (a 0), .ref (o)]) D κ a o v 0 (Pl_ D κ o 0 ((nI (lsc_ v (hh_ v) (tt_ v) (vs_n v))).toInt64)) := by
  refine hp_intro (by decide +kernel) rfl (Nat.le_of_ble_eq_true rfl) ?_
  intro p e s m args below meth c ls Qq hx hb hml hown hts hK hKx hPx hPo hS hT htab hend hl
  have hl : lv_has ls 3 [(0, .ref (a 0)), (1, .ref (o))] := hl
  obtain ⟨hv1, hv2, hv3, hv4, hv5, hv6⟩ := id hv
  refine lv_aload_n hx hb dL_leadingSchool_0 rfl (lv_at hl 1 rfl) ?_
  refine lv_iconst (v := nI (0)) hx hb dL_leadingSchool_1 (by decide) ?_
  refine lv_aload_n hx hb dL_leadingSchool_2 rfl (lv_at hl 0 rfl) ?_
  refine rd_V (rest := [.int (nI (0)), .ref (o)]) ⟨hx, hb, hml, hown, hts⟩ (c_X0_leadingSchool l D κ a v hv  (hw)) g_L_75 n_X0_leadingSchool ⟨Nat.le_of_ble_eq_true rfl, Nat.le_of_ble_eq_true rfl⟩ hKx hPx rfl rfl rfl hl.1 rfl (Nat.le_of_ble_eq_true rfl) dL_leadingSchool_3 ⟨Nat.zero_le _, Nat.zero_le _⟩ ?_
  refine lv_i2l (v := (nI (lsc_ v (hh_ v) (tt_ v) (vs_n v))).toInt64) hx hb dL_leadingSchool_6 rfl ?_
  refine hp_store hx hb hK hPx hPo hap hoa hS dL_leadingSchool_7 (fun H locs hPx hPo hS => ?_)
  refine lv_goto (tgt := 14) hx hb dL_leadingSchool_8 (by decide) ?_
  refine lv_iconst (v := nI (0)) hx hb dL_leadingSchool_14 (by decide) ?_
  exact hend _ _ _ _ _ _ (by decide) (by decide) dL_leadingSchool_15 hPx ⟨_, hPo, fun _ => rfl⟩ hS
set_option maxHeartbeats 4000000 in
set_option maxRecDepth 100000 in
theorem h_leadingSchool_x (l : Launch) (D : va_G) (κ : Nat → ClassId) (a : Nat → Nat) (v : VS) (hv : ok_v v) (hap : ap_ a 9) (hls : l.stackTraces = false) (o : Nat) (hoa : ¬ xa_ a o) (w : Nat → Int64) (r9 : Int64) (hw0 : wl_ v (hh_ v) (tt_ v) = 0) : Hp l yL_leadingSchool cL_leadingSchool 3 [(0, 8, 11, 15)] 7 108 (Ph_ D κ a v (ol_ κ o w) [.ref (a 0), .ref (o)]) D κ a o v 1 (Pl_ D κ o 1 (r9)) := by
  refine hp_intro (by decide +kernel) rfl (Nat.le_of_ble_eq_true rfl) ?_
  intro p e s m args below meth c ls Qq hx hb hml hown hts hK hKx hPx hPo hS hT htab hend hl
  have hl : lv_has ls 3 [(0, .ref (a 0)), (1, .ref (o))] := hl
  refine lv_aload_n hx hb dL_leadingSchool_0 rfl (lv_at hl 1 rfl) ?_
  refine lv_iconst (v := nI (0)) hx hb dL_leadingSchool_1 (by decide) ?_
  refine lv_aload_n hx hb dL_leadingSchool_2 rfl (lv_at hl 0 rfl) ?_
  refine tx_catch (rest := [.int (nI (0)), .ref (o)]) ⟨hx, hb, hml, hown, hts⟩ (c_X0_leadingSchool_x l D κ a v hv hls  (hw0)) g_L_75 n_X0_leadingSchool ⟨Nat.le_of_ble_eq_true rfl, Nat.le_of_ble_eq_true rfl⟩ hKx hPx (Thr_of hT) rfl rfl rfl hl.1 rfl (Nat.le_of_ble_eq_true rfl) dL_leadingSchool_3 ⟨Nat.le_of_ble_eq_true rfl, Nat.le_of_ble_eq_true rfl⟩ [] ⟨0, 8, 11, 15⟩ [] htab (fun z hz => absurd hz List.not_mem_nil) (by decide) (by decide) (hts _ q_cl_L_15) q_face_ISE (fun q9 H hz hk => ?_)
  have hPx : va_P D vwCl (xw κ a v) H := xw_kept hPx hk
  have hPo : va_P D vwCl (ol_ κ o w) H := xw_kept hPo hk
  have hS : va_S (xo_ a o) s.heap H [] := ⟨hz, fun q h1 _ => hk q h1, fun _ h => absurd h List.not_mem_nil⟩
  refine lv_astore_n (lv' := [(2, .ref (q9)), (0, .ref (a 0)), (1, .ref (o))]) hx hb dL_leadingSchool_11 rfl hl (by decide) rfl (fun ls hl => ?_)
  refine lv_iconst (v := nI (1)) hx hb dL_leadingSchool_12 (by decide) ?_
  exact hend _ _ _ _ _ _ (by decide) (by decide) dL_leadingSchool_13 hPx ⟨_, hPo, fun z => absurd z (by decide)⟩ hS
set_option maxHeartbeats 4000000 in
set_option maxRecDepth 100000 in
theorem h_oddsAgainst_ok (l : Launch) (D : va_G) (κ : Nat → ClassId) (a : Nat → Nat) (v : VS) (hv : ok_v v) (hap : ap_ a 9) (hls : l.stackTraces = false) (o : Nat) (hoa : ¬ xa_ a o) (w : Nat → Int64) (c_ : Nat) (d_ : Nat) (hc : c_ < vs_c v) (hd : d_ < vs_c v) (hz : 0 < wt_ v d_ (hh_ v) (tt_ v)) : Hp l yL_oddsAgainst cL_oddsAgainst 5 [(0, 9, 12, 24), (0, 9, 16, 15)] 8 129 (Ph_ D κ a v (ol_ κ o w) [.ref (a 0), .int (nI (c_)), .int (nI (d_)), .ref (o)]) D κ a o v 0 (Pl_ D κ o 0 (lN (wt_ v c_ (hh_ v) (tt_ v) / wt_ v d_ (hh_ v) (tt_ v)))) := by
  refine hp_intro (by decide +kernel) rfl (Nat.le_of_ble_eq_true rfl) ?_
  intro p e s m args below meth c ls Qq hx hb hml hown hts hK hKx hPx hPo hS hT htab hend hl
  have hl : lv_has ls 5 [(0, .ref (a 0)), (1, .int (nI (c_))), (2, .int (nI (d_))), (3, .ref (o))] := hl
  obtain ⟨hv1, hv2, hv3, hv4, hv5, hv6⟩ := id hv
  refine lv_aload_n hx hb dL_oddsAgainst_0 rfl (lv_at hl 3 rfl) ?_
  refine lv_iconst (v := nI (0)) hx hb dL_oddsAgainst_1 (by decide) ?_
  refine lv_aload_n hx hb dL_oddsAgainst_2 rfl (lv_at hl 0 rfl) ?_
  refine lv_iload_n hx hb dL_oddsAgainst_3 rfl (lv_at hl 1 rfl) ?_
  refine lv_iload_n hx hb dL_oddsAgainst_4 rfl (lv_at hl 2 rfl) ?_
  refine rd_V (rest := [.int (nI (0)), .ref (o)]) ⟨hx, hb, hml, hown, hts⟩ (c_X0_oddsAgainst l D κ a v hv (c_) (d_) (hc) (hd) (hz)) g_L_78 n_X0_oddsAgainst ⟨Nat.le_of_ble_eq_true rfl, Nat.le_of_ble_eq_true rfl⟩ hKx hPx rfl rfl rfl hl.1 rfl (Nat.le_of_ble_eq_true rfl) dL_oddsAgainst_5 ⟨Nat.zero_le _, Nat.zero_le _⟩ ?_
  refine hp_store hx hb hK hPx hPo hap hoa hS dL_oddsAgainst_8 (fun H locs hPx hPo hS => ?_)
  refine lv_goto (tgt := 20) hx hb dL_oddsAgainst_9 (by decide) ?_
  refine lv_iconst (v := nI (0)) hx hb dL_oddsAgainst_20 (by decide) ?_
  exact hend _ _ _ _ _ _ (by decide) (by decide) dL_oddsAgainst_21 hPx ⟨_, hPo, fun _ => rfl⟩ hS
set_option maxHeartbeats 4000000 in
set_option maxRecDepth 100000 in
theorem h_oddsAgainst_x1 (l : Launch) (D : va_G) (κ : Nat → ClassId) (a : Nat → Nat) (v : VS) (hv : ok_v v) (hap : ap_ a 9) (hls : l.stackTraces = false) (o : Nat) (hoa : ¬ xa_ a o) (w : Nat → Int64) (r9 : Int64) (x : Int32) (y : Int32) (hx0 : ix_ x (vs_c v) = false) : Hp l yL_oddsAgainst cL_oddsAgainst 5 [(0, 9, 12, 24), (0, 9, 16, 15)] 8 129 (Ph_ D κ a v (ol_ κ o w) [.ref (a 0), .int (x), .int (y), .ref (o)]) D κ a o v 1 (Pl_ D κ o 1 (r9)) := by
  refine hp_intro (by decide +kernel) rfl (Nat.le_of_ble_eq_true rfl) ?_
  intro p e s m args below meth c ls Qq hx hb hml hown hts hK hKx hPx hPo hS hT htab hend hl
  have hl : lv_has ls 5 [(0, .ref (a 0)), (1, .int (x)), (2, .int (y)), (3, .ref (o))] := hl
  refine lv_aload_n hx hb dL_oddsAgainst_0 rfl (lv_at hl 3 rfl) ?_
  refine lv_iconst (v := nI (0)) hx hb dL_oddsAgainst_1 (by decide) ?_
  refine lv_aload_n hx hb dL_oddsAgainst_2 rfl (lv_at hl 0 rfl) ?_
  refine lv_iload_n hx hb dL_oddsAgainst_3 rfl (lv_at hl 1 rfl) ?_
  refine lv_iload_n hx hb dL_oddsAgainst_4 rfl (lv_at hl 2 rfl) ?_
  refine tx_catch (rest := [.int (nI (0)), .ref (o)]) ⟨hx, hb, hml, hown, hts⟩ (c_X0_oddsAgainst_x1 l D κ a v hv hls (x) (y) (hx0)) g_L_78 n_X0_oddsAgainst ⟨Nat.le_of_ble_eq_true rfl, Nat.le_of_ble_eq_true rfl⟩ hKx hPx (Thr_of hT) rfl rfl rfl hl.1 rfl (Nat.le_of_ble_eq_true rfl) dL_oddsAgainst_5 ⟨Nat.le_of_ble_eq_true rfl, Nat.le_of_ble_eq_true rfl⟩ [] ⟨0, 9, 12, 24⟩ [⟨0, 9, 16, 15⟩] htab (fun z hz => absurd hz List.not_mem_nil) (by decide) (by decide) (hts _ q_cl_L_24) q_face_IOB (fun q9 H hz hk => ?_)
  have hPx : va_P D vwCl (xw κ a v) H := xw_kept hPx hk
  have hPo : va_P D vwCl (ol_ κ o w) H := xw_kept hPo hk
  have hS : va_S (xo_ a o) s.heap H [] := ⟨hz, fun q h1 _ => hk q h1, fun _ h => absurd h List.not_mem_nil⟩
  refine lv_astore (lv' := [(4, .ref (q9)), (0, .ref (a 0)), (1, .int (x)), (2, .int (y)), (3, .ref (o))]) hx hb dL_oddsAgainst_12 hl (by decide) rfl (fun ls hl => ?_)
  refine lv_iconst (v := nI (1)) hx hb dL_oddsAgainst_14 (by decide) ?_
  exact hend _ _ _ _ _ _ (by decide) (by decide) dL_oddsAgainst_15 hPx ⟨_, hPo, fun z => absurd z (by decide)⟩ hS
set_option maxHeartbeats 4000000 in
set_option maxRecDepth 100000 in
theorem h_oddsAgainst_x2 (l : Launch) (D : va_G) (κ : Nat → ClassId) (a : Nat → Nat) (v : VS) (hv : ok_v v) (hap : ap_ a 9) (hls : l.stackTraces = false) (o : Nat) (hoa : ¬ xa_ a o) (w : Nat → Int64) (r9 : Int64) (c_ : Nat) (y : Int32) (hc : c_ < vs_c v) (hx0 : ix_ y (vs_c v) = false) : Hp l yL_oddsAgainst cL_oddsAgainst 5 [(0, 9, 12, 24), (0, 9, 16, 15)] 8 129 (Ph_ D κ a v (ol_ κ o w) [.ref (a 0), .int (nI (c_)), .int (y), .ref (o)]) D κ a o v 1 (Pl_ D κ o 1 (r9)) := by
  refine hp_intro (by decide +kernel) rfl (Nat.le_of_ble_eq_true rfl) ?_
  intro p e s m args below meth c ls Qq hx hb hml hown hts hK hKx hPx hPo hS hT htab hend hl
  have hl : lv_has ls 5 [(0, .ref (a 0)), (1, .int (nI (c_))), (2, .int (y)), (3, .ref (o))] := hl
  refine lv_aload_n hx hb dL_oddsAgainst_0 rfl (lv_at hl 3 rfl) ?_
  refine lv_iconst (v := nI (0)) hx hb dL_oddsAgainst_1 (by decide) ?_
  refine lv_aload_n hx hb dL_oddsAgainst_2 rfl (lv_at hl 0 rfl) ?_
  refine lv_iload_n hx hb dL_oddsAgainst_3 rfl (lv_at hl 1 rfl) ?_
  refine lv_iload_n hx hb dL_oddsAgainst_4 rfl (lv_at hl 2 rfl) ?_
  refine tx_catch (rest := [.int (nI (0)), .ref (o)]) ⟨hx, hb, hml, hown, hts⟩ (c_X0_oddsAgainst_x2 l D κ a v hv hls (c_) (y) (hc) (hx0)) g_L_78 n_X0_oddsAgainst ⟨Nat.le_of_ble_eq_true rfl, Nat.le_of_ble_eq_true rfl⟩ hKx hPx (Thr_of hT) rfl rfl rfl hl.1 rfl (Nat.le_of_ble_eq_true rfl) dL_oddsAgainst_5 ⟨Nat.le_of_ble_eq_true rfl, Nat.le_of_ble_eq_true rfl⟩ [] ⟨0, 9, 12, 24⟩ [⟨0, 9, 16, 15⟩] htab (fun z hz => absurd hz List.not_mem_nil) (by decide) (by decide) (hts _ q_cl_L_24) q_face_IOB (fun q9 H hz hk => ?_)
  have hPx : va_P D vwCl (xw κ a v) H := xw_kept hPx hk
  have hPo : va_P D vwCl (ol_ κ o w) H := xw_kept hPo hk
  have hS : va_S (xo_ a o) s.heap H [] := ⟨hz, fun q h1 _ => hk q h1, fun _ h => absurd h List.not_mem_nil⟩
  refine lv_astore (lv' := [(4, .ref (q9)), (0, .ref (a 0)), (1, .int (nI (c_))), (2, .int (y)), (3, .ref (o))]) hx hb dL_oddsAgainst_12 hl (by decide) rfl (fun ls hl => ?_)
  refine lv_iconst (v := nI (1)) hx hb dL_oddsAgainst_14 (by decide) ?_
  exact hend _ _ _ _ _ _ (by decide) (by decide) dL_oddsAgainst_15 hPx ⟨_, hPo, fun z => absurd z (by decide)⟩ hS
set_option maxHeartbeats 4000000 in
set_option maxRecDepth 100000 in
theorem h_oddsAgainst_x3 (l : Launch) (D : va_G) (κ : Nat → ClassId) (a : Nat → Nat) (v : VS) (hv : ok_v v) (hap : ap_ a 9) (hls : l.stackTraces = false) (o : Nat) (hoa : ¬ xa_ a o) (w : Nat → Int64) (r9 : Int64) (c_ : Nat) (d_ : Nat) (hc : c_ < vs_c v) (hd : d_ < vs_c v) (hz : wt_ v d_ (hh_ v) (tt_ v) = 0) : Hp l yL_oddsAgainst cL_oddsAgainst 5 [(0, 9, 12, 24), (0, 9, 16, 15)] 8 129 (Ph_ D κ a v (ol_ κ o w) [.ref (a 0), .int (nI (c_)), .int (nI (d_)), .ref (o)]) D κ a o v 2 (Pl_ D κ o 2 (r9)) := by
  refine hp_intro (by decide +kernel) rfl (Nat.le_of_ble_eq_true rfl) ?_
  intro p e s m args below meth c ls Qq hx hb hml hown hts hK hKx hPx hPo hS hT htab hend hl
  have hl : lv_has ls 5 [(0, .ref (a 0)), (1, .int (nI (c_))), (2, .int (nI (d_))), (3, .ref (o))] := hl
  refine lv_aload_n hx hb dL_oddsAgainst_0 rfl (lv_at hl 3 rfl) ?_
  refine lv_iconst (v := nI (0)) hx hb dL_oddsAgainst_1 (by decide) ?_
  refine lv_aload_n hx hb dL_oddsAgainst_2 rfl (lv_at hl 0 rfl) ?_
  refine lv_iload_n hx hb dL_oddsAgainst_3 rfl (lv_at hl 1 rfl) ?_
  refine lv_iload_n hx hb dL_oddsAgainst_4 rfl (lv_at hl 2 rfl) ?_
  refine tx_catch (rest := [.int (nI (0)), .ref (o)]) ⟨hx, hb, hml, hown, hts⟩ (c_X0_oddsAgainst_x3 l D κ a v hv hls (c_) (d_) (hc) (hd) (hz)) g_L_78 n_X0_oddsAgainst ⟨Nat.le_of_ble_eq_true rfl, Nat.le_of_ble_eq_true rfl⟩ hKx hPx (Thr_of hT) rfl rfl rfl hl.1 rfl (Nat.le_of_ble_eq_true rfl) dL_oddsAgainst_5 ⟨Nat.le_of_ble_eq_true rfl, Nat.le_of_ble_eq_true rfl⟩ [⟨0, 9, 12, 24⟩] ⟨0, 9, 16, 15⟩ [] htab (fun z hz => by rw [List.mem_singleton] at hz; subst hz; exact Or.inr ⟨by decide, _, hts _ q_cl_L_24, hT.2.2.2⟩) (by decide) (by decide) (hts _ q_cl_L_15) q_face_ISE (fun q9 H hz hk => ?_)
  have hPx : va_P D vwCl (xw κ a v) H := xw_kept hPx hk
  have hPo : va_P D vwCl (ol_ κ o w) H := xw_kept hPo hk
  have hS : va_S (xo_ a o) s.heap H [] := ⟨hz, fun q h1 _ => hk q h1, fun _ h => absurd h List.not_mem_nil⟩
  refine lv_astore (lv' := [(4, .ref (q9)), (0, .ref (a 0)), (1, .int (nI (c_))), (2, .int (nI (d_))), (3, .ref (o))]) hx hb dL_oddsAgainst_16 hl (by decide) rfl (fun ls hl => ?_)
  refine lv_iconst (v := nI (2)) hx hb dL_oddsAgainst_18 (by decide) ?_
  exact hend _ _ _ _ _ _ (by decide) (by decide) dL_oddsAgainst_19 hPx ⟨_, hPo, fun z => absurd z (by decide)⟩ hS
set_option maxHeartbeats 4000000 in
set_option maxRecDepth 100000 in
theorem h_surpriseOf_ok (l : Launch) (D : va_G) (κ : Nat → ClassId) (a : Nat → Nat) (v : VS) (hv : ok_v v) (hap : ap_ a 9) (hls : l.stackTraces = false) (o : Nat) (hoa : ¬ xa_ a o) (w : Nat → Int64) (t_ : Nat) (ht : t_ < vs_t v) : Hp l yL_surpriseOf cL_surpriseOf 4 [(0, 9, 12, 24)] 8 151 (Ph_ D κ a v (ol_ κ o w) [.ref (a 0), .int (nI (t_)), .ref (o)]) D κ a o v 0 (Pl_ D κ o 0 ((nI (sa_ v t_)).toInt64)) := by
  refine hp_intro (by decide +kernel) rfl (Nat.le_of_ble_eq_true rfl) ?_
  intro p e s m args below meth c ls Qq hx hb hml hown hts hK hKx hPx hPo hS hT htab hend hl
  have hl : lv_has ls 4 [(0, .ref (a 0)), (1, .int (nI (t_))), (2, .ref (o))] := hl
  obtain ⟨hv1, hv2, hv3, hv4, hv5, hv6⟩ := id hv
  refine lv_aload_n hx hb dL_surpriseOf_0 rfl (lv_at hl 2 rfl) ?_
  refine lv_iconst (v := nI (0)) hx hb dL_surpriseOf_1 (by decide) ?_
  refine lv_aload_n hx hb dL_surpriseOf_2 rfl (lv_at hl 0 rfl) ?_
  refine lv_iload_n hx hb dL_surpriseOf_3 rfl (lv_at hl 1 rfl) ?_
  refine rd_V (rest := [.int (nI (0)), .ref (o)]) ⟨hx, hb, hml, hown, hts⟩ (c_X0_surpriseOf l D κ a v hv (t_) (ht)) g_L_81 n_X0_surpriseOf ⟨Nat.le_of_ble_eq_true rfl, Nat.le_of_ble_eq_true rfl⟩ hKx hPx rfl rfl rfl hl.1 rfl (Nat.le_of_ble_eq_true rfl) dL_surpriseOf_4 ⟨Nat.zero_le _, Nat.zero_le _⟩ ?_
  refine lv_i2l (v := (nI (sa_ v t_)).toInt64) hx hb dL_surpriseOf_7 rfl ?_
  refine hp_store hx hb hK hPx hPo hap hoa hS dL_surpriseOf_8 (fun H locs hPx hPo hS => ?_)
  refine lv_goto (tgt := 15) hx hb dL_surpriseOf_9 (by decide) ?_
  refine lv_iconst (v := nI (0)) hx hb dL_surpriseOf_15 (by decide) ?_
  exact hend _ _ _ _ _ _ (by decide) (by decide) dL_surpriseOf_16 hPx ⟨_, hPo, fun _ => rfl⟩ hS
set_option maxHeartbeats 4000000 in
set_option maxRecDepth 100000 in
theorem h_surpriseOf_x (l : Launch) (D : va_G) (κ : Nat → ClassId) (a : Nat → Nat) (v : VS) (hv : ok_v v) (hap : ap_ a 9) (hls : l.stackTraces = false) (o : Nat) (hoa : ¬ xa_ a o) (w : Nat → Int64) (r9 : Int64) (x : Int32) (hx0 : ix_ x (vs_t v) = false) : Hp l yL_surpriseOf cL_surpriseOf 4 [(0, 9, 12, 24)] 8 151 (Ph_ D κ a v (ol_ κ o w) [.ref (a 0), .int (x), .ref (o)]) D κ a o v 1 (Pl_ D κ o 1 (r9)) := by
  refine hp_intro (by decide +kernel) rfl (Nat.le_of_ble_eq_true rfl) ?_
  intro p e s m args below meth c ls Qq hx hb hml hown hts hK hKx hPx hPo hS hT htab hend hl
  have hl : lv_has ls 4 [(0, .ref (a 0)), (1, .int (x)), (2, .ref (o))] := hl
  refine lv_aload_n hx hb dL_surpriseOf_0 rfl (lv_at hl 2 rfl) ?_
  refine lv_iconst (v := nI (0)) hx hb dL_surpriseOf_1 (by decide) ?_
  refine lv_aload_n hx hb dL_surpriseOf_2 rfl (lv_at hl 0 rfl) ?_
  refine lv_iload_n hx hb dL_surpriseOf_3 rfl (lv_at hl 1 rfl) ?_
  refine tx_catch (rest := [.int (nI (0)), .ref (o)]) ⟨hx, hb, hml, hown, hts⟩ (c_X0_surpriseOf_x l D κ a v hv hls (x) (hx0)) g_L_81 n_X0_surpriseOf ⟨Nat.le_of_ble_eq_true rfl, Nat.le_of_ble_eq_true rfl⟩ hKx hPx (Thr_of hT) rfl rfl rfl hl.1 rfl (Nat.le_of_ble_eq_true rfl) dL_surpriseOf_4 ⟨Nat.le_of_ble_eq_true rfl, Nat.le_of_ble_eq_true rfl⟩ [] ⟨0, 9, 12, 24⟩ [] htab (fun z hz => absurd hz List.not_mem_nil) (by decide) (by decide) (hts _ q_cl_L_24) q_face_IOB (fun q9 H hz hk => ?_)
  have hPx : va_P D vwCl (xw κ a v) H := xw_kept hPx hk
  have hPo : va_P D vwCl (ol_ κ o w) H := xw_kept hPo hk
  have hS : va_S (xo_ a o) s.heap H [] := ⟨hz, fun q h1 _ => hk q h1, fun _ h => absurd h List.not_mem_nil⟩
  refine lv_astore_n (lv' := [(3, .ref (q9)), (0, .ref (a 0)), (1, .int (x)), (2, .ref (o))]) hx hb dL_surpriseOf_12 rfl hl (by decide) rfl (fun ls hl => ?_)
  refine lv_iconst (v := nI (1)) hx hb dL_surpriseOf_13 (by decide) ?_
  exact hend _ _ _ _ _ _ (by decide) (by decide) dL_surpriseOf_14 hPx ⟨_, hPo, fun z => absurd z (by decide)⟩ hS
set_option maxHeartbeats 4000000 in
set_option maxRecDepth 100000 in
theorem h_headsPercent_ok (l : Launch) (D : va_G) (κ : Nat → ClassId) (a : Nat → Nat) (v : VS) (hv : ok_v v) (hap : ap_ a 9) (hls : l.stackTraces = false) (o : Nat) (hoa : ¬ xa_ a o) (w : Nat → Int64) (hw : 0 < wl_ v (hh_ v) (tt_ v)) : Hp l yL_headsPercent cL_headsPercent 3 [(0, 8, 11, 15)] 8 129 (Ph_ D κ a v (ol_ κ o w) [.ref (a 0), .ref (o)]) D κ a o v 0 (Pl_ D κ o 0 ((nI (ch_ v true (hh_ v) (tt_ v) * 100 / (10 * wl_ v (hh_ v) (tt_ v)))).toInt64)) := by
  refine hp_intro (by decide +kernel) rfl (Nat.le_of_ble_eq_true rfl) ?_
  intro p e s m args below meth c ls Qq hx hb hml hown hts hK hKx hPx hPo hS hT htab hend hl
  have hl : lv_has ls 3 [(0, .ref (a 0)), (1, .ref (o))] := hl
  obtain ⟨hv1, hv2, hv3, hv4, hv5, hv6⟩ := id hv
  refine lv_aload_n hx hb dL_headsPercent_0 rfl (lv_at hl 1 rfl) ?_
  refine lv_iconst (v := nI (0)) hx hb dL_headsPercent_1 (by decide) ?_
  refine lv_aload_n hx hb dL_headsPercent_2 rfl (lv_at hl 0 rfl) ?_
  refine rd_V (rest := [.int (nI (0)), .ref (o)]) ⟨hx, hb, hml, hown, hts⟩ (c_X0_headsPercent l D κ a v hv  (hw)) g_L_84 n_X0_headsPercent ⟨Nat.le_of_ble_eq_true rfl, Nat.le_of_ble_eq_true rfl⟩ hKx hPx rfl rfl rfl hl.1 rfl (Nat.le_of_ble_eq_true rfl) dL_headsPercent_3 ⟨Nat.zero_le _, Nat.zero_le _⟩ ?_
  refine lv_i2l (v := (nI (ch_ v true (hh_ v) (tt_ v) * 100 / (10 * wl_ v (hh_ v) (tt_ v)))).toInt64) hx hb dL_headsPercent_6 rfl ?_
  refine hp_store hx hb hK hPx hPo hap hoa hS dL_headsPercent_7 (fun H locs hPx hPo hS => ?_)
  refine lv_goto (tgt := 14) hx hb dL_headsPercent_8 (by decide) ?_
  refine lv_iconst (v := nI (0)) hx hb dL_headsPercent_14 (by decide) ?_
  exact hend _ _ _ _ _ _ (by decide) (by decide) dL_headsPercent_15 hPx ⟨_, hPo, fun _ => rfl⟩ hS
set_option maxHeartbeats 4000000 in
set_option maxRecDepth 100000 in
theorem h_headsPercent_x (l : Launch) (D : va_G) (κ : Nat → ClassId) (a : Nat → Nat) (v : VS) (hv : ok_v v) (hap : ap_ a 9) (hls : l.stackTraces = false) (o : Nat) (hoa : ¬ xa_ a o) (w : Nat → Int64) (r9 : Int64) (hw0 : wl_ v (hh_ v) (tt_ v) = 0) : Hp l yL_headsPercent cL_headsPercent 3 [(0, 8, 11, 15)] 8 129 (Ph_ D κ a v (ol_ κ o w) [.ref (a 0), .ref (o)]) D κ a o v 1 (Pl_ D κ o 1 (r9)) := by
  refine hp_intro (by decide +kernel) rfl (Nat.le_of_ble_eq_true rfl) ?_
  intro p e s m args below meth c ls Qq hx hb hml hown hts hK hKx hPx hPo hS hT htab hend hl
  have hl : lv_has ls 3 [(0, .ref (a 0)), (1, .ref (o))] := hl
  refine lv_aload_n hx hb dL_headsPercent_0 rfl (lv_at hl 1 rfl) ?_
  refine lv_iconst (v := nI (0)) hx hb dL_headsPercent_1 (by decide) ?_
  refine lv_aload_n hx hb dL_headsPercent_2 rfl (lv_at hl 0 rfl) ?_
  refine tx_catch (rest := [.int (nI (0)), .ref (o)]) ⟨hx, hb, hml, hown, hts⟩ (c_X0_headsPercent_x l D κ a v hv hls  (hw0)) g_L_84 n_X0_headsPercent ⟨Nat.le_of_ble_eq_true rfl, Nat.le_of_ble_eq_true rfl⟩ hKx hPx (Thr_of hT) rfl rfl rfl hl.1 rfl (Nat.le_of_ble_eq_true rfl) dL_headsPercent_3 ⟨Nat.le_of_ble_eq_true rfl, Nat.le_of_ble_eq_true rfl⟩ [] ⟨0, 8, 11, 15⟩ [] htab (fun z hz => absurd hz List.not_mem_nil) (by decide) (by decide) (hts _ q_cl_L_15) q_face_ISE (fun q9 H hz hk => ?_)
  have hPx : va_P D vwCl (xw κ a v) H := xw_kept hPx hk
  have hPo : va_P D vwCl (ol_ κ o w) H := xw_kept hPo hk
  have hS : va_S (xo_ a o) s.heap H [] := ⟨hz, fun q h1 _ => hk q h1, fun _ h => absurd h List.not_mem_nil⟩
  refine lv_astore_n (lv' := [(2, .ref (q9)), (0, .ref (a 0)), (1, .ref (o))]) hx hb dL_headsPercent_11 rfl hl (by decide) rfl (fun ls hl => ?_)
  refine lv_iconst (v := nI (1)) hx hb dL_headsPercent_12 (by decide) ?_
  exact hend _ _ _ _ _ _ (by decide) (by decide) dL_headsPercent_13 hPx ⟨_, hPo, fun z => absurd z (by decide)⟩ hS
set_option maxHeartbeats 4000000 in
set_option maxRecDepth 100000 in
theorem h_wouldSurprise_ok (l : Launch) (D : va_G) (κ : Nat → ClassId) (a : Nat → Nat) (v : VS) (hv : ok_v v) (hap : ap_ a 9) (hls : l.stackTraces = false) (o : Nat) (hoa : ¬ xa_ a o) (w : Nat → Int64) (h_ : Bool) (hp : 0 < ch_ v h_ (hh_ v) (tt_ v)) : Hp l yL_wouldSurprise cL_wouldSurprise 4 [(0, 9, 12, 15)] 8 129 (Ph_ D κ a v (ol_ κ o w) [.ref (a 0), .int (bI (h_)), .ref (o)]) D κ a o v 0 (Pl_ D κ o 0 ((nI (su_ v h_ (hh_ v) (tt_ v))).toInt64)) := by
  refine hp_intro (by decide +kernel) rfl (Nat.le_of_ble_eq_true rfl) ?_
  intro p e s m args below meth c ls Qq hx hb hml hown hts hK hKx hPx hPo hS hT htab hend hl
  have hl : lv_has ls 4 [(0, .ref (a 0)), (1, .int (bI (h_))), (2, .ref (o))] := hl
  obtain ⟨hv1, hv2, hv3, hv4, hv5, hv6⟩ := id hv
  refine lv_aload_n hx hb dL_wouldSurprise_0 rfl (lv_at hl 2 rfl) ?_
  refine lv_iconst (v := nI (0)) hx hb dL_wouldSurprise_1 (by decide) ?_
  refine lv_aload_n hx hb dL_wouldSurprise_2 rfl (lv_at hl 0 rfl) ?_
  refine lv_iload_n hx hb dL_wouldSurprise_3 rfl (lv_at hl 1 rfl) ?_
  refine rd_V (rest := [.int (nI (0)), .ref (o)]) ⟨hx, hb, hml, hown, hts⟩ (c_X0_wouldSurprise l D κ a v hv (h_) (hp)) g_L_87 n_X0_wouldSurprise ⟨Nat.le_of_ble_eq_true rfl, Nat.le_of_ble_eq_true rfl⟩ hKx hPx rfl rfl rfl hl.1 rfl (Nat.le_of_ble_eq_true rfl) dL_wouldSurprise_4 ⟨Nat.zero_le _, Nat.zero_le _⟩ ?_
  refine lv_i2l (v := (nI (su_ v h_ (hh_ v) (tt_ v))).toInt64) hx hb dL_wouldSurprise_7 rfl ?_
  refine hp_store hx hb hK hPx hPo hap hoa hS dL_wouldSurprise_8 (fun H locs hPx hPo hS => ?_)
  refine lv_goto (tgt := 15) hx hb dL_wouldSurprise_9 (by decide) ?_
  refine lv_iconst (v := nI (0)) hx hb dL_wouldSurprise_15 (by decide) ?_
  exact hend _ _ _ _ _ _ (by decide) (by decide) dL_wouldSurprise_16 hPx ⟨_, hPo, fun _ => rfl⟩ hS
set_option maxHeartbeats 4000000 in
set_option maxRecDepth 100000 in
theorem h_wouldSurprise_x (l : Launch) (D : va_G) (κ : Nat → ClassId) (a : Nat → Nat) (v : VS) (hv : ok_v v) (hap : ap_ a 9) (hls : l.stackTraces = false) (o : Nat) (hoa : ¬ xa_ a o) (w : Nat → Int64) (r9 : Int64) (h_ : Bool) (hp0 : ch_ v h_ (hh_ v) (tt_ v) = 0) : Hp l yL_wouldSurprise cL_wouldSurprise 4 [(0, 9, 12, 15)] 8 129 (Ph_ D κ a v (ol_ κ o w) [.ref (a 0), .int (bI (h_)), .ref (o)]) D κ a o v 1 (Pl_ D κ o 1 (r9)) := by
  refine hp_intro (by decide +kernel) rfl (Nat.le_of_ble_eq_true rfl) ?_
  intro p e s m args below meth c ls Qq hx hb hml hown hts hK hKx hPx hPo hS hT htab hend hl
  have hl : lv_has ls 4 [(0, .ref (a 0)), (1, .int (bI (h_))), (2, .ref (o))] := hl
  refine lv_aload_n hx hb dL_wouldSurprise_0 rfl (lv_at hl 2 rfl) ?_
  refine lv_iconst (v := nI (0)) hx hb dL_wouldSurprise_1 (by decide) ?_
  refine lv_aload_n hx hb dL_wouldSurprise_2 rfl (lv_at hl 0 rfl) ?_
  refine lv_iload_n hx hb dL_wouldSurprise_3 rfl (lv_at hl 1 rfl) ?_
  refine tx_catch (rest := [.int (nI (0)), .ref (o)]) ⟨hx, hb, hml, hown, hts⟩ (c_X0_wouldSurprise_x l D κ a v hv hls (h_) (hp0)) g_L_87 n_X0_wouldSurprise ⟨Nat.le_of_ble_eq_true rfl, Nat.le_of_ble_eq_true rfl⟩ hKx hPx (Thr_of hT) rfl rfl rfl hl.1 rfl (Nat.le_of_ble_eq_true rfl) dL_wouldSurprise_4 ⟨Nat.le_of_ble_eq_true rfl, Nat.le_of_ble_eq_true rfl⟩ [] ⟨0, 9, 12, 15⟩ [] htab (fun z hz => absurd hz List.not_mem_nil) (by decide) (by decide) (hts _ q_cl_L_15) q_face_ISE (fun q9 H hz hk => ?_)
  have hPx : va_P D vwCl (xw κ a v) H := xw_kept hPx hk
  have hPo : va_P D vwCl (ol_ κ o w) H := xw_kept hPo hk
  have hS : va_S (xo_ a o) s.heap H [] := ⟨hz, fun q h1 _ => hk q h1, fun _ h => absurd h List.not_mem_nil⟩
  refine lv_astore_n (lv' := [(3, .ref (q9)), (0, .ref (a 0)), (1, .int (bI (h_))), (2, .ref (o))]) hx hb dL_wouldSurprise_12 rfl hl (by decide) rfl (fun ls hl => ?_)
  refine lv_iconst (v := nI (1)) hx hb dL_wouldSurprise_13 (by decide) ?_
  exact hend _ _ _ _ _ _ (by decide) (by decide) dL_wouldSurprise_14 hPx ⟨_, hPo, fun z => absurd z (by decide)⟩ hS
set_option maxHeartbeats 4000000 in
set_option maxRecDepth 100000 in
theorem h_leaderBehind_ok (l : Launch) (D : va_G) (κ : Nat → ClassId) (a : Nat → Nat) (v : VS) (hv : ok_v v) (hap : ap_ a 9) (hls : l.stackTraces = false) (o : Nat) (hoa : ¬ xa_ a o) (w : Nat → Int64) (h_ : Bool) (hp : 0 < ch_ v h_ (hh_ v) (tt_ v)) : Hp l yL_leaderBehind cL_leaderBehind 4 [(0, 9, 12, 15)] 8 124 (Ph_ D κ a v (ol_ κ o w) [.ref (a 0), .int (bI (h_)), .ref (o)]) D κ a o v 0 (Pl_ D κ o 0 ((nI (lb_ v h_)).toInt64)) := by
  refine hp_intro (by decide +kernel) rfl (Nat.le_of_ble_eq_true rfl) ?_
  intro p e s m args below meth c ls Qq hx hb hml hown hts hK hKx hPx hPo hS hT htab hend hl
  have hl : lv_has ls 4 [(0, .ref (a 0)), (1, .int (bI (h_))), (2, .ref (o))] := hl
  obtain ⟨hv1, hv2, hv3, hv4, hv5, hv6⟩ := id hv
  refine lv_aload_n hx hb dL_leaderBehind_0 rfl (lv_at hl 2 rfl) ?_
  refine lv_iconst (v := nI (0)) hx hb dL_leaderBehind_1 (by decide) ?_
  refine lv_aload_n hx hb dL_leaderBehind_2 rfl (lv_at hl 0 rfl) ?_
  refine lv_iload_n hx hb dL_leaderBehind_3 rfl (lv_at hl 1 rfl) ?_
  refine rd_V (rest := [.int (nI (0)), .ref (o)]) ⟨hx, hb, hml, hown, hts⟩ (c_X0_leaderBehind l D κ a v hv (h_) (hp)) g_L_90 n_X0_leaderBehind ⟨Nat.le_of_ble_eq_true rfl, Nat.le_of_ble_eq_true rfl⟩ hKx hPx rfl rfl rfl hl.1 rfl (Nat.le_of_ble_eq_true rfl) dL_leaderBehind_4 ⟨Nat.zero_le _, Nat.zero_le _⟩ ?_
  refine lv_i2l (v := (nI (lb_ v h_)).toInt64) hx hb dL_leaderBehind_7 rfl ?_
  refine hp_store hx hb hK hPx hPo hap hoa hS dL_leaderBehind_8 (fun H locs hPx hPo hS => ?_)
  refine lv_goto (tgt := 15) hx hb dL_leaderBehind_9 (by decide) ?_
  refine lv_iconst (v := nI (0)) hx hb dL_leaderBehind_15 (by decide) ?_
  exact hend _ _ _ _ _ _ (by decide) (by decide) dL_leaderBehind_16 hPx ⟨_, hPo, fun _ => rfl⟩ hS
set_option maxHeartbeats 4000000 in
set_option maxRecDepth 100000 in
theorem h_leaderBehind_x (l : Launch) (D : va_G) (κ : Nat → ClassId) (a : Nat → Nat) (v : VS) (hv : ok_v v) (hap : ap_ a 9) (hls : l.stackTraces = false) (o : Nat) (hoa : ¬ xa_ a o) (w : Nat → Int64) (r9 : Int64) (h_ : Bool) (hp0 : ch_ v h_ (hh_ v) (tt_ v) = 0) : Hp l yL_leaderBehind cL_leaderBehind 4 [(0, 9, 12, 15)] 8 124 (Ph_ D κ a v (ol_ κ o w) [.ref (a 0), .int (bI (h_)), .ref (o)]) D κ a o v 1 (Pl_ D κ o 1 (r9)) := by
  refine hp_intro (by decide +kernel) rfl (Nat.le_of_ble_eq_true rfl) ?_
  intro p e s m args below meth c ls Qq hx hb hml hown hts hK hKx hPx hPo hS hT htab hend hl
  have hl : lv_has ls 4 [(0, .ref (a 0)), (1, .int (bI (h_))), (2, .ref (o))] := hl
  refine lv_aload_n hx hb dL_leaderBehind_0 rfl (lv_at hl 2 rfl) ?_
  refine lv_iconst (v := nI (0)) hx hb dL_leaderBehind_1 (by decide) ?_
  refine lv_aload_n hx hb dL_leaderBehind_2 rfl (lv_at hl 0 rfl) ?_
  refine lv_iload_n hx hb dL_leaderBehind_3 rfl (lv_at hl 1 rfl) ?_
  refine tx_catch (rest := [.int (nI (0)), .ref (o)]) ⟨hx, hb, hml, hown, hts⟩ (c_X0_leaderBehind_x l D κ a v hv hls (h_) (hp0)) g_L_90 n_X0_leaderBehind ⟨Nat.le_of_ble_eq_true rfl, Nat.le_of_ble_eq_true rfl⟩ hKx hPx (Thr_of hT) rfl rfl rfl hl.1 rfl (Nat.le_of_ble_eq_true rfl) dL_leaderBehind_4 ⟨Nat.le_of_ble_eq_true rfl, Nat.le_of_ble_eq_true rfl⟩ [] ⟨0, 9, 12, 15⟩ [] htab (fun z hz => absurd hz List.not_mem_nil) (by decide) (by decide) (hts _ q_cl_L_15) q_face_ISE (fun q9 H hz hk => ?_)
  have hPx : va_P D vwCl (xw κ a v) H := xw_kept hPx hk
  have hPo : va_P D vwCl (ol_ κ o w) H := xw_kept hPo hk
  have hS : va_S (xo_ a o) s.heap H [] := ⟨hz, fun q h1 _ => hk q h1, fun _ h => absurd h List.not_mem_nil⟩
  refine lv_astore_n (lv' := [(3, .ref (q9)), (0, .ref (a 0)), (1, .int (bI (h_))), (2, .ref (o))]) hx hb dL_leaderBehind_12 rfl hl (by decide) rfl (fun ls hl => ?_)
  refine lv_iconst (v := nI (1)) hx hb dL_leaderBehind_13 (by decide) ?_
  exact hend _ _ _ _ _ _ (by decide) (by decide) dL_leaderBehind_14 hPx ⟨_, hPo, fun z => absurd z (by decide)⟩ hS
set_option maxHeartbeats 4000000 in
set_option maxRecDepth 100000 in
theorem h_tossesToLead_ok (l : Launch) (D : va_G) (κ : Nat → ClassId) (a : Nat → Nat) (v : VS) (hv : ok_v v) (hap : ap_ a 9) (hls : l.stackTraces = false) (o : Nat) (hoa : ¬ xa_ a o) (w : Nat → Int64) (c_ : Nat) (hc : c_ < vs_c v) : Hp l yL_tossesToLead cL_tossesToLead 4 [(0, 9, 12, 24)] 8 127 (Ph_ D κ a v (ol_ κ o w) [.ref (a 0), .int (nI (c_)), .ref (o)]) D κ a o v 0 (Pl_ D κ o 0 ((tl_ v c_).toInt64)) := by
  refine hp_intro (by decide +kernel) rfl (Nat.le_of_ble_eq_true rfl) ?_
  intro p e s m args below meth c ls Qq hx hb hml hown hts hK hKx hPx hPo hS hT htab hend hl
  have hl : lv_has ls 4 [(0, .ref (a 0)), (1, .int (nI (c_))), (2, .ref (o))] := hl
  obtain ⟨hv1, hv2, hv3, hv4, hv5, hv6⟩ := id hv
  refine lv_aload_n hx hb dL_tossesToLead_0 rfl (lv_at hl 2 rfl) ?_
  refine lv_iconst (v := nI (0)) hx hb dL_tossesToLead_1 (by decide) ?_
  refine lv_aload_n hx hb dL_tossesToLead_2 rfl (lv_at hl 0 rfl) ?_
  refine lv_iload_n hx hb dL_tossesToLead_3 rfl (lv_at hl 1 rfl) ?_
  refine rd_V (rest := [.int (nI (0)), .ref (o)]) ⟨hx, hb, hml, hown, hts⟩ (c_X0_tossesToLead l D κ a v hv (c_) (hc)) g_L_93 n_X0_tossesToLead ⟨Nat.le_of_ble_eq_true rfl, Nat.le_of_ble_eq_true rfl⟩ hKx hPx rfl rfl rfl hl.1 rfl (Nat.le_of_ble_eq_true rfl) dL_tossesToLead_4 ⟨Nat.zero_le _, Nat.zero_le _⟩ ?_
  refine lv_i2l (v := (tl_ v c_).toInt64) hx hb dL_tossesToLead_7 rfl ?_
  refine hp_store hx hb hK hPx hPo hap hoa hS dL_tossesToLead_8 (fun H locs hPx hPo hS => ?_)
  refine lv_goto (tgt := 15) hx hb dL_tossesToLead_9 (by decide) ?_
  refine lv_iconst (v := nI (0)) hx hb dL_tossesToLead_15 (by decide) ?_
  exact hend _ _ _ _ _ _ (by decide) (by decide) dL_tossesToLead_16 hPx ⟨_, hPo, fun _ => rfl⟩ hS
set_option maxHeartbeats 4000000 in
set_option maxRecDepth 100000 in
theorem h_tossesToLead_x (l : Launch) (D : va_G) (κ : Nat → ClassId) (a : Nat → Nat) (v : VS) (hv : ok_v v) (hap : ap_ a 9) (hls : l.stackTraces = false) (o : Nat) (hoa : ¬ xa_ a o) (w : Nat → Int64) (r9 : Int64) (x : Int32) (hx0 : ix_ x (vs_c v) = false) : Hp l yL_tossesToLead cL_tossesToLead 4 [(0, 9, 12, 24)] 8 127 (Ph_ D κ a v (ol_ κ o w) [.ref (a 0), .int (x), .ref (o)]) D κ a o v 1 (Pl_ D κ o 1 (r9)) := by
  refine hp_intro (by decide +kernel) rfl (Nat.le_of_ble_eq_true rfl) ?_
  intro p e s m args below meth c ls Qq hx hb hml hown hts hK hKx hPx hPo hS hT htab hend hl
  have hl : lv_has ls 4 [(0, .ref (a 0)), (1, .int (x)), (2, .ref (o))] := hl
  refine lv_aload_n hx hb dL_tossesToLead_0 rfl (lv_at hl 2 rfl) ?_
  refine lv_iconst (v := nI (0)) hx hb dL_tossesToLead_1 (by decide) ?_
  refine lv_aload_n hx hb dL_tossesToLead_2 rfl (lv_at hl 0 rfl) ?_
  refine lv_iload_n hx hb dL_tossesToLead_3 rfl (lv_at hl 1 rfl) ?_
  refine tx_catch (rest := [.int (nI (0)), .ref (o)]) ⟨hx, hb, hml, hown, hts⟩ (c_X0_tossesToLead_x l D κ a v hv hls (x) (hx0)) g_L_93 n_X0_tossesToLead ⟨Nat.le_of_ble_eq_true rfl, Nat.le_of_ble_eq_true rfl⟩ hKx hPx (Thr_of hT) rfl rfl rfl hl.1 rfl (Nat.le_of_ble_eq_true rfl) dL_tossesToLead_4 ⟨Nat.le_of_ble_eq_true rfl, Nat.le_of_ble_eq_true rfl⟩ [] ⟨0, 9, 12, 24⟩ [] htab (fun z hz => absurd hz List.not_mem_nil) (by decide) (by decide) (hts _ q_cl_L_24) q_face_IOB (fun q9 H hz hk => ?_)
  have hPx : va_P D vwCl (xw κ a v) H := xw_kept hPx hk
  have hPo : va_P D vwCl (ol_ κ o w) H := xw_kept hPo hk
  have hS : va_S (xo_ a o) s.heap H [] := ⟨hz, fun q h1 _ => hk q h1, fun _ h => absurd h List.not_mem_nil⟩
  refine lv_astore_n (lv' := [(3, .ref (q9)), (0, .ref (a 0)), (1, .int (x)), (2, .ref (o))]) hx hb dL_tossesToLead_12 rfl hl (by decide) rfl (fun ls hl => ?_)
  refine lv_iconst (v := nI (1)) hx hb dL_tossesToLead_13 (by decide) ?_
  exact hend _ _ _ _ _ _ (by decide) (by decide) dL_tossesToLead_14 hPx ⟨_, hPo, fun z => absurd z (by decide)⟩ hS
set_option maxHeartbeats 4000000 in
set_option maxRecDepth 100000 in
theorem h_meanTenths_ok (l : Launch) (D : va_G) (κ : Nat → ClassId) (a : Nat → Nat) (v : VS) (hv : ok_v v) (hap : ap_ a 9) (hls : l.stackTraces = false) (o : Nat) (hoa : ¬ xa_ a o) (w : Nat → UInt64) (hw : 0 < wl_ v (hh_ v) (tt_ v)) : Hp l yL_meanTenths cL_meanTenths 3 [(0, 7, 10, 15)] 7 120 (Ph_ D κ a v (od_ κ o w) [.ref (a 0), .ref (o)]) D κ a o v 0 (Pd_ D κ o 0 (mt_ v)) := by
  refine hp_intro (by decide +kernel) rfl (Nat.le_of_ble_eq_true rfl) ?_
  intro p e s m args below meth c ls Qq hx hb hml hown hts hK hKx hPx hPo hS hT htab hend hl
  have hl : lv_has ls 3 [(0, .ref (a 0)), (1, .ref (o))] := hl
  obtain ⟨hv1, hv2, hv3, hv4, hv5, hv6⟩ := id hv
  refine lv_aload_n hx hb dL_meanTenths_0 rfl (lv_at hl 1 rfl) ?_
  refine lv_iconst (v := nI (0)) hx hb dL_meanTenths_1 (by decide) ?_
  refine lv_aload_n hx hb dL_meanTenths_2 rfl (lv_at hl 0 rfl) ?_
  refine rd_V (rest := [.int (nI (0)), .ref (o)]) ⟨hx, hb, hml, hown, hts⟩ (c_X0_meanTenths l D κ a v hv  (hw)) g_L_96 n_X0_meanTenths ⟨Nat.le_of_ble_eq_true rfl, Nat.le_of_ble_eq_true rfl⟩ hKx hPx rfl rfl rfl hl.1 rfl (Nat.le_of_ble_eq_true rfl) dL_meanTenths_3 ⟨Nat.zero_le _, Nat.zero_le _⟩ ?_
  refine hp_storeD hx hb hK hPx hPo hap hoa hS dL_meanTenths_6 (fun H locs hPx hPo hS => ?_)
  refine lv_goto (tgt := 13) hx hb dL_meanTenths_7 (by decide) ?_
  refine lv_iconst (v := nI (0)) hx hb dL_meanTenths_13 (by decide) ?_
  exact hend _ _ _ _ _ _ (by decide) (by decide) dL_meanTenths_14 hPx ⟨_, hPo, fun _ => rfl⟩ hS
set_option maxHeartbeats 4000000 in
set_option maxRecDepth 100000 in
theorem h_meanTenths_x (l : Launch) (D : va_G) (κ : Nat → ClassId) (a : Nat → Nat) (v : VS) (hv : ok_v v) (hap : ap_ a 9) (hls : l.stackTraces = false) (o : Nat) (hoa : ¬ xa_ a o) (w : Nat → UInt64) (r9 : UInt64) (hw0 : wl_ v (hh_ v) (tt_ v) = 0) : Hp l yL_meanTenths cL_meanTenths 3 [(0, 7, 10, 15)] 7 120 (Ph_ D κ a v (od_ κ o w) [.ref (a 0), .ref (o)]) D κ a o v 1 (Pd_ D κ o 1 (r9)) := by
  refine hp_intro (by decide +kernel) rfl (Nat.le_of_ble_eq_true rfl) ?_
  intro p e s m args below meth c ls Qq hx hb hml hown hts hK hKx hPx hPo hS hT htab hend hl
  have hl : lv_has ls 3 [(0, .ref (a 0)), (1, .ref (o))] := hl
  refine lv_aload_n hx hb dL_meanTenths_0 rfl (lv_at hl 1 rfl) ?_
  refine lv_iconst (v := nI (0)) hx hb dL_meanTenths_1 (by decide) ?_
  refine lv_aload_n hx hb dL_meanTenths_2 rfl (lv_at hl 0 rfl) ?_
  refine tx_catch (rest := [.int (nI (0)), .ref (o)]) ⟨hx, hb, hml, hown, hts⟩ (c_X0_meanTenths_x l D κ a v hv hls  (hw0)) g_L_96 n_X0_meanTenths ⟨Nat.le_of_ble_eq_true rfl, Nat.le_of_ble_eq_true rfl⟩ hKx hPx (Thr_of hT) rfl rfl rfl hl.1 rfl (Nat.le_of_ble_eq_true rfl) dL_meanTenths_3 ⟨Nat.le_of_ble_eq_true rfl, Nat.le_of_ble_eq_true rfl⟩ [] ⟨0, 7, 10, 15⟩ [] htab (fun z hz => absurd hz List.not_mem_nil) (by decide) (by decide) (hts _ q_cl_L_15) q_face_ISE (fun q9 H hz hk => ?_)
  have hPx : va_P D vwCl (xw κ a v) H := xw_kept hPx hk
  have hPo : va_P D vwCl (od_ κ o w) H := xw_kept hPo hk
  have hS : va_S (xo_ a o) s.heap H [] := ⟨hz, fun q h1 _ => hk q h1, fun _ h => absurd h List.not_mem_nil⟩
  refine lv_astore_n (lv' := [(2, .ref (q9)), (0, .ref (a 0)), (1, .ref (o))]) hx hb dL_meanTenths_10 rfl hl (by decide) rfl (fun ls hl => ?_)
  refine lv_iconst (v := nI (1)) hx hb dL_meanTenths_11 (by decide) ?_
  exact hend _ _ _ _ _ _ (by decide) (by decide) dL_meanTenths_12 hPx ⟨_, hPo, fun z => absurd z (by decide)⟩ hS
