set_option maxHeartbeats 4000000 in
set_option maxRecDepth 100000 in
theorem c_X1_thrown (l : Launch) (D : va_G) (κ : Nat → ClassId) (b : Nat → Nat) (u : Nat) (v : VS) (hv : ok_v v) : Rd l yX1_thrown cX1_thrown 1 (some .int) 0 0 (Pw D (kt_ κ) (mw κ b u v) [.ref (b 0)]) (.int (nI (u))) := by
  refine rd_intro (own := RX1) (by decide +kernel) rfl (Nat.le_of_ble_eq_true rfl) (fun p e s m args below meth c pc ls hx hb hr hlk d => ret_I hx hb hr hlk d) ?_
  intro p e s m args below meth c ls Qq hx hb hml hown hts hK hP hend hl
  have hl : lv_has ls 1 [(0, .ref (b 0))] := hl
  obtain ⟨hv1, hv2, hv3, hv4, hv5, hv6⟩ := id hv
  refine lv_aload_n hx hb dX1_thrown_0 rfl (lv_at hl 0 rfl) ?_
  refine va_get (D := D) (ci := 1) (v := .int (nI (u))) (C := RX1) (T := TX1) (N := 8) hx hb hts i_X1 hown hK hP 0 rfl rfl 0 (by decide) (hts _ q_f_X1_19) (fun _ h9 => h9) rfl dX1_thrown_1 ?_
  exact hend _ _ dX1_thrown_4
set_option maxHeartbeats 4000000 in
set_option maxRecDepth 100000 in
theorem c_X1_isIn (l : Launch) (x : Int32) (lo_ : Int32) (hi_ : Int32) : Rd l yX1_isIn cX1_isIn 3 (some .boolean) 0 0 (Pn [.int (x), .int (lo_), .int (hi_)]) (.int (bI (ii_ x lo_ hi_))) := by
  refine rd_introS (own := RX1) (by decide +kernel) rfl (Nat.le_of_ble_eq_true rfl) (fun p e s m args below meth c pc ls hx hb hr hlk d => ret_Z hx hb hr hlk d) ?_
  intro p e s m args below meth c ls Qq hx hb hml hown hts hend hl
  have hl : lv_has ls 3 [(0, .int (x)), (1, .int (lo_)), (2, .int (hi_))] := hl
  refine lv_iload_n hx hb dX1_isIn_0 rfl (lv_at hl 0 rfl) ?_
  refine lv_iload_n hx hb dX1_isIn_1 rfl (lv_at hl 1 rfl) ?_
  refine lv_icmp_lt (tgt := 14) hx hb dX1_isIn_2 (by decide) (fun c_2 => ?_) (fun c_2 => ?_)
  · refine lv_iconst (v := nI (0)) hx hb dX1_isIn_14 (by decide) ?_
    refine nv_topi (show (nI (0) : Int32) = bI (ii_ x lo_ hi_) from by first | exact ii_t c_2 c_7 | exact ii_f1 c_2 | exact ii_f2 c_7) ?_
    exact hend _ _ dX1_isIn_15
  · refine lv_iload_n hx hb dX1_isIn_5 rfl (lv_at hl 0 rfl) ?_
    refine lv_iload_n hx hb dX1_isIn_6 rfl (lv_at hl 2 rfl) ?_
    refine lv_icmp_gt (tgt := 14) hx hb dX1_isIn_7 (by decide) (fun c_7 => ?_) (fun c_7 => ?_)
    · refine lv_iconst (v := nI (0)) hx hb dX1_isIn_14 (by decide) ?_
      refine nv_topi (show (nI (0) : Int32) = bI (ii_ x lo_ hi_) from by first | exact ii_t c_2 c_7 | exact ii_f1 c_2 | exact ii_f2 c_7) ?_
      exact hend _ _ dX1_isIn_15
    · refine lv_iconst (v := nI (1)) hx hb dX1_isIn_10 (by decide) ?_
      refine lv_goto (tgt := 15) hx hb dX1_isIn_11 (by decide) ?_
      refine nv_topi (show (nI (1) : Int32) = bI (ii_ x lo_ hi_) from by first | exact ii_t c_2 c_7 | exact ii_f1 c_2 | exact ii_f2 c_7) ?_
      exact hend _ _ dX1_isIn_15
set_option maxHeartbeats 4000000 in
set_option maxRecDepth 100000 in
theorem c_X1_isCoin (l : Launch) (D : va_G) (κ : Nat → ClassId) (b : Nat → Nat) (u : Nat) (v : VS) (hv : ok_v v) (x : Int32) : Rd l yX1_isCoin cX1_isCoin 2 (some .boolean) 1 22 (Pw D (kt_ κ) (mw κ b u v) [.ref (b 0), .int (x)]) (.int (bI (ix_ x (vs_c v)))) := by
  refine rd_intro (own := RX1) (by decide +kernel) rfl (Nat.le_of_ble_eq_true rfl) (fun p e s m args below meth c pc ls hx hb hr hlk d => ret_Z hx hb hr hlk d) ?_
  intro p e s m args below meth c ls Qq hx hb hml hown hts hK hP hend hl
  have hl : lv_has ls 2 [(0, .ref (b 0)), (1, .int (x))] := hl
  obtain ⟨hv1, hv2, hv3, hv4, hv5, hv6⟩ := id hv
  refine lv_iload_n hx hb dX1_isCoin_0 rfl (lv_at hl 1 rfl) ?_
  refine lv_iconst (v := nI (0)) hx hb dX1_isCoin_1 (by decide) ?_
  refine lv_aload_n hx hb dX1_isCoin_2 rfl (lv_at hl 0 rfl) ?_
  refine va_get (D := D) (ci := 1) (v := .int (nI (vs_c v))) (C := RX1) (T := TX1) (N := 8) hx hb hts i_X1 hown hK hP 0 rfl rfl 1 (by decide) (hts _ q_f_X1_23) (fun _ h9 => h9) rfl dX1_isCoin_3 ?_
  refine lv_iconst (v := nI (1)) hx hb dX1_isCoin_6 (by decide) ?_
  refine lv_isub hx hb dX1_isCoin_7 ?_
  refine rd_S (rest := []) ⟨hx, hb, hml, hown, hts⟩ (c_X1_isIn l (x) (nI (0)) ((nI (vs_c v)) - (nI (1)))) g_X1_26 n_X1_isIn ⟨Nat.le_of_ble_eq_true rfl, Nat.le_of_ble_eq_true rfl⟩ rfl hl.1 rfl (Nat.le_of_ble_eq_true rfl) dX1_isCoin_8 ⟨Nat.zero_le _, Nat.zero_le _⟩ ?_
  refine nv_topi (congrArg bI (show (ii_ x (nI (0)) ((nI (vs_c v)) - (nI (1))) : Bool) = ix_ x (vs_c v) from by exact ii_ix x (by omega))) ?_
  exact hend _ _ dX1_isCoin_11
set_option maxHeartbeats 4000000 in
set_option maxRecDepth 100000 in
theorem c_X1_isSchool (l : Launch) (D : va_G) (κ : Nat → ClassId) (b : Nat → Nat) (u : Nat) (v : VS) (hv : ok_v v) (x : Int32) : Rd l yX1_isSchool cX1_isSchool 2 (some .boolean) 1 22 (Pw D (kt_ κ) (mw κ b u v) [.ref (b 0), .int (x)]) (.int (bI (ix_ x (vs_n v)))) := by
  refine rd_intro (own := RX1) (by decide +kernel) rfl (Nat.le_of_ble_eq_true rfl) (fun p e s m args below meth c pc ls hx hb hr hlk d => ret_Z hx hb hr hlk d) ?_
  intro p e s m args below meth c ls Qq hx hb hml hown hts hK hP hend hl
  have hl : lv_has ls 2 [(0, .ref (b 0)), (1, .int (x))] := hl
  obtain ⟨hv1, hv2, hv3, hv4, hv5, hv6⟩ := id hv
  refine lv_iload_n hx hb dX1_isSchool_0 rfl (lv_at hl 1 rfl) ?_
  refine lv_iconst (v := nI (0)) hx hb dX1_isSchool_1 (by decide) ?_
  refine lv_aload_n hx hb dX1_isSchool_2 rfl (lv_at hl 0 rfl) ?_
  refine va_get (D := D) (ci := 1) (v := .int (nI (vs_n v))) (C := RX1) (T := TX1) (N := 8) hx hb hts i_X1 hown hK hP 0 rfl rfl 2 (by decide) (hts _ q_f_X1_30) (fun _ h9 => h9) rfl dX1_isSchool_3 ?_
  refine lv_iconst (v := nI (1)) hx hb dX1_isSchool_6 (by decide) ?_
  refine lv_isub hx hb dX1_isSchool_7 ?_
  refine rd_S (rest := []) ⟨hx, hb, hml, hown, hts⟩ (c_X1_isIn l (x) (nI (0)) ((nI (vs_n v)) - (nI (1)))) g_X1_26 n_X1_isIn ⟨Nat.le_of_ble_eq_true rfl, Nat.le_of_ble_eq_true rfl⟩ rfl hl.1 rfl (Nat.le_of_ble_eq_true rfl) dX1_isSchool_8 ⟨Nat.zero_le _, Nat.zero_le _⟩ ?_
  refine nv_topi (congrArg bI (show (ii_ x (nI (0)) ((nI (vs_n v)) - (nI (1))) : Bool) = ix_ x (vs_n v) from by exact ii_ix x (by omega))) ?_
  exact hend _ _ dX1_isSchool_11
set_option maxHeartbeats 4000000 in
set_option maxRecDepth 100000 in
theorem c_X1_isToss (l : Launch) (D : va_G) (κ : Nat → ClassId) (b : Nat → Nat) (u : Nat) (v : VS) (hv : ok_v v) (x : Int32) : Rd l yX1_isToss cX1_isToss 2 (some .boolean) 1 22 (Pw D (kt_ κ) (mw κ b u v) [.ref (b 0), .int (x)]) (.int (bI (ix_ x (vs_t v)))) := by
  refine rd_intro (own := RX1) (by decide +kernel) rfl (Nat.le_of_ble_eq_true rfl) (fun p e s m args below meth c pc ls hx hb hr hlk d => ret_Z hx hb hr hlk d) ?_
  intro p e s m args below meth c ls Qq hx hb hml hown hts hK hP hend hl
  have hl : lv_has ls 2 [(0, .ref (b 0)), (1, .int (x))] := hl
  obtain ⟨hv1, hv2, hv3, hv4, hv5, hv6⟩ := id hv
  refine lv_iload_n hx hb dX1_isToss_0 rfl (lv_at hl 1 rfl) ?_
  refine lv_iconst (v := nI (0)) hx hb dX1_isToss_1 (by decide) ?_
  refine lv_aload_n hx hb dX1_isToss_2 rfl (lv_at hl 0 rfl) ?_
  refine va_get (D := D) (ci := 1) (v := .int (nI (vs_t v))) (C := RX1) (T := TX1) (N := 8) hx hb hts i_X1 hown hK hP 0 rfl rfl 3 (by decide) (hts _ q_f_X1_33) (fun _ h9 => h9) rfl dX1_isToss_3 ?_
  refine lv_iconst (v := nI (1)) hx hb dX1_isToss_6 (by decide) ?_
  refine lv_isub hx hb dX1_isToss_7 ?_
  refine rd_S (rest := []) ⟨hx, hb, hml, hown, hts⟩ (c_X1_isIn l (x) (nI (0)) ((nI (vs_t v)) - (nI (1)))) g_X1_26 n_X1_isIn ⟨Nat.le_of_ble_eq_true rfl, Nat.le_of_ble_eq_true rfl⟩ rfl hl.1 rfl (Nat.le_of_ble_eq_true rfl) dX1_isToss_8 ⟨Nat.zero_le _, Nat.zero_le _⟩ ?_
  refine nv_topi (congrArg bI (show (ii_ x (nI (0)) ((nI (vs_t v)) - (nI (1))) : Bool) = ix_ x (vs_t v) from by exact ii_ix x (by omega))) ?_
  exact hend _ _ dX1_isToss_11
set_option maxHeartbeats 4000000 in
set_option maxRecDepth 100000 in
theorem c_X1_headsIn (l : Launch) (f : Nat → Bool) (n : Nat) (k : Nat) (hk : k ≤ n) (hn : n ≤ 12) : Rd l yX1_headsIn cX1_headsIn 4 (some .int) 0 0 (Pn [.int (nI (rn_ f n)), .int (nI (k))]) (.int (nI (hd_ f k))) := by
  refine rd_introS (own := RX1) (by decide +kernel) rfl (Nat.le_of_ble_eq_true rfl) (fun p e s m args below meth c pc ls hx hb hr hlk d => ret_I hx hb hr hlk d) ?_
  intro p e s m args below meth c ls Qq hx hb hml hown hts hend hl
  have hl : lv_has ls 4 [(0, .int (nI (rn_ f n))), (1, .int (nI (k)))] := hl
  refine lv_iconst (v := nI (0)) hx hb dX1_headsIn_0 (by decide) ?_
  refine lv_istore_n (lv' := [(2, .int (nI (0))), (0, .int (nI (rn_ f n))), (1, .int (nI (k)))]) hx hb dX1_headsIn_1 rfl hl (by decide) rfl (fun ls hl => ?_)
  refine lv_iconst (v := nI (0)) hx hb dX1_headsIn_2 (by decide) ?_
  refine lv_istore_n (lv' := [(3, .int (nI (0))), (2, .int (nI (0))), (0, .int (nI (rn_ f n))), (1, .int (nI (k)))]) hx hb dX1_headsIn_3 rfl hl (by decide) rfl (fun ls hl => ?_)
  suffices hloop_4 : ∀ (n_4 i : Nat) (ls : Array Slot), i + n_4 = k → lv_has ls 4 [(0, .int (nI (rn_ f n))), (1, .int (nI (k))), (2, .int (nI (hd_ f i))), (3, .int (nI (i)))] → W p l e (rm_ 0 0) s m args below meth c s.heap [] 0 0 Qq (F0 m 4 ls []) from hloop_4 (k - 0) (0) ls (by omega) (lv_cast (k := [(0, .int (nI (rn_ f n))), (1, .int (nI (k))), (2, .int (nI (0))), (3, .int (nI (0)))]) (lv_sub hl [2, 3, 1, 0] rfl) (lc_cons rfl (lc_cons rfl (lc_cons (congrArg (fun z : Nat => ((2 : Nat), Value.int (nI z))) (show (0 : Nat) = hd_ f 0 from by first | rfl | omega)) (lc_cons rfl rfl)))))
  intro n_4
  induction n_4 with
  | zero =>
    intro i ls hin_4 hl
    have hi_4 : i = k := by omega
    refine lv_iload_n hx hb dX1_headsIn_4 rfl (lv_at hl 3 rfl) ?_
    refine lv_iload_n hx hb dX1_headsIn_5 rfl (lv_at hl 1 rfl) ?_
    refine nv_icmp_ge (tgt := 23) hx hb dX1_headsIn_6 (by decide) (by omega) (by omega) (fun c_6 => ?_) (fun z => absurd z (by omega))
    refine lv_iload_n hx hb dX1_headsIn_23 rfl (lv_at hl 2 rfl) ?_
    refine nv_topi (congrArg nI (show (hd_ f i : Nat) = hd_ f k from by rw [hi_4])) ?_
    exact hend _ _ dX1_headsIn_24
  | succ n_4 ih_4 =>
    intro i ls hin_4 hl
    refine lv_iload_n hx hb dX1_headsIn_4 rfl (lv_at hl 3 rfl) ?_
    refine lv_iload_n hx hb dX1_headsIn_5 rfl (lv_at hl 1 rfl) ?_
    refine nv_icmp_ge (tgt := 23) hx hb dX1_headsIn_6 (by decide) (by omega) (by omega) (fun z => absurd z (by omega)) (fun c_6 => ?_)
    refine lv_iload_n hx hb dX1_headsIn_9 rfl (lv_at hl 2 rfl) ?_
    refine lv_iload_n hx hb dX1_headsIn_10 rfl (lv_at hl 0 rfl) ?_
    refine lv_iload_n hx hb dX1_headsIn_11 rfl (lv_at hl 3 rfl) ?_
    refine lv_ishr hx hb dX1_headsIn_12 ?_
    refine lv_iconst (v := nI (1)) hx hb dX1_headsIn_13 (by decide) ?_
    refine lv_iand hx hb dX1_headsIn_14 ?_
    refine nv_topi (show (((nI (rn_ f n)) >>> ((nI (i)) &&& 31)) &&& (nI (1)) : Int32) = nI (if f i then 1 else 0) from by exact bit_at (by omega) hn) ?_
    refine nv_iadd hx hb dX1_headsIn_15 rfl ?_
    refine lv_istore_n (lv' := [(2, .int (nI ((hd_ f i) + (if f i then 1 else 0)))), (0, .int (nI (rn_ f n))), (1, .int (nI (k))), (3, .int (nI (i)))]) hx hb dX1_headsIn_16 rfl hl (by decide) rfl (fun ls hl => ?_)
    refine lv_iinc (v := nI (i + 1)) (lv' := [(3, .int (nI (i + 1))), (2, .int (nI ((hd_ f i) + (if f i then 1 else 0)))), (0, .int (nI (rn_ f n))), (1, .int (nI (k)))]) hx hb dX1_headsIn_17 hl (k := 3) rfl (nI_add _ _) (by decide) rfl (fun ls hl => ?_)
    refine lv_goto (tgt := 4) hx hb dX1_headsIn_20 (by decide) ?_
    exact ih_4 (i + 1) ls (by omega) (lv_cast (k := [(0, .int (nI (rn_ f n))), (1, .int (nI (k))), (2, .int (nI ((hd_ f i) + (if f i then 1 else 0)))), (3, .int (nI (i + 1)))]) (lv_sub hl [2, 3, 1, 0] rfl) (lc_cons rfl (lc_cons rfl (lc_cons (congrArg (fun z : Nat => ((2 : Nat), Value.int (nI z))) (show ((hd_ f i) + (if f i then 1 else 0) : Nat) = hd_ f (i + 1) from by first | rfl | omega)) (lc_cons (congrArg (fun z : Nat => ((3 : Nat), Value.int (nI z))) (show (i + 1 : Nat) = (i + 1) from by first | rfl | omega)) rfl)))))
set_option maxHeartbeats 4000000 in
set_option maxRecDepth 100000 in
theorem c_X1_headsNow (l : Launch) (D : va_G) (κ : Nat → ClassId) (b : Nat → Nat) (u : Nat) (v : VS) (hv : ok_v v) : Rd l yX1_headsNow cX1_headsNow 1 (some .int) 1 23 (Pw D (kt_ κ) (mw κ b u v) [.ref (b 0)]) (.int (nI (hh_ v))) := by
  refine rd_intro (own := RX1) (by decide +kernel) rfl (Nat.le_of_ble_eq_true rfl) (fun p e s m args below meth c pc ls hx hb hr hlk d => ret_I hx hb hr hlk d) ?_
  intro p e s m args below meth c ls Qq hx hb hml hown hts hK hP hend hl
  have hl : lv_has ls 1 [(0, .ref (b 0))] := hl
  obtain ⟨hv1, hv2, hv3, hv4, hv5, hv6⟩ := id hv
  refine lv_aload_n hx hb dX1_headsNow_0 rfl (lv_at hl 0 rfl) ?_
  refine va_get (D := D) (ci := 1) (v := .int (nI (rw_ v))) (C := RX1) (T := TX1) (N := 8) hx hb hts i_X1 hown hK hP 0 rfl rfl 4 (by decide) (hts _ q_f_X1_36) (fun _ h9 => h9) rfl dX1_headsNow_1 ?_
  refine lv_aload_n hx hb dX1_headsNow_4 rfl (lv_at hl 0 rfl) ?_
  refine va_get (D := D) (ci := 1) (v := .int (nI (vs_t v))) (C := RX1) (T := TX1) (N := 8) hx hb hts i_X1 hown hK hP 0 rfl rfl 3 (by decide) (hts _ q_f_X1_33) (fun _ h9 => h9) rfl dX1_headsNow_5 ?_
  refine rd_S (rest := []) ⟨hx, hb, hml, hown, hts⟩ (c_X1_headsIn l (vs_th v) (vs_t v) (vs_t v) (by omega) (by omega)) g_X1_39 n_X1_headsIn ⟨Nat.le_of_ble_eq_true rfl, Nat.le_of_ble_eq_true rfl⟩ rfl hl.1 rfl (Nat.le_of_ble_eq_true rfl) dX1_headsNow_8 ⟨Nat.zero_le _, Nat.zero_le _⟩ ?_
  refine nv_topi (congrArg nI (show (hd_ (vs_th v) (vs_t v) : Nat) = hh_ v from by first | rfl | omega)) ?_
  exact hend _ _ dX1_headsNow_11
set_option maxHeartbeats 4000000 in
set_option maxRecDepth 100000 in
theorem c_X1_power (l : Launch) (q : Nat) (k : Nat) (hq : q ≤ 10) (hk : k ≤ 20) : Rd l yX1_power cX1_power 5 (some .long) 0 0 (Pn [.int (nI (q)), .int (nI (k))]) (.long (lN (q ^ k))) := by
  refine rd_introS (own := RX1) (by decide +kernel) rfl (Nat.le_of_ble_eq_true rfl) (fun p e s m args below meth c pc ls hx hb hr hlk d => ret_L hx hb hr hlk d) ?_
  intro p e s m args below meth c ls Qq hx hb hml hown hts hend hl
  have hl : lv_has ls 5 [(0, .int (nI (q))), (1, .int (nI (k)))] := hl
  refine lv_lconst (v := lN (1)) hx hb dX1_power_0 (by decide) ?_
  refine lv_lstore_n (lv' := [(2, .long (lN (1))), (0, .int (nI (q))), (1, .int (nI (k)))]) hx hb dX1_power_1 rfl hl (by decide) rfl (fun ls hl => ?_)
  refine lv_iconst (v := nI (0)) hx hb dX1_power_2 (by decide) ?_
  refine lv_istore (lv' := [(4, .int (nI (0))), (2, .long (lN (1))), (0, .int (nI (q))), (1, .int (nI (k)))]) hx hb dX1_power_3 hl (by decide) rfl (fun ls hl => ?_)
  suffices hloop_5 : ∀ (n_5 i : Nat) (ls : Array Slot), i + n_5 = k → lv_has ls 5 [(0, .int (nI (q))), (1, .int (nI (k))), (2, .long (lN (q ^ i))), (4, .int (nI (i)))] → W p l e (rm_ 0 0) s m args below meth c s.heap [] 0 0 Qq (F0 m 5 ls []) from hloop_5 (k - 0) (0) ls (by omega) (lv_cast (k := [(0, .int (nI (q))), (1, .int (nI (k))), (2, .long (lN (1))), (4, .int (nI (0)))]) (lv_sub hl [2, 3, 1, 0] rfl) (lc_cons rfl (lc_cons rfl (lc_cons (congrArg (fun z : Nat => ((2 : Nat), Value.long (lN z))) (show (1 : Nat) = q ^ 0 from by first | rfl | omega)) (lc_cons rfl rfl)))))
  intro n_5
  induction n_5 with
  | zero =>
    intro i ls hin_5 hl
    have hi_5 : i = k := by omega
    refine lv_iload hx hb dX1_power_5 (lv_at hl 3 rfl) ?_
    refine lv_iload_n hx hb dX1_power_7 rfl (lv_at hl 1 rfl) ?_
    refine nv_icmp_ge (tgt := 22) hx hb dX1_power_8 (by decide) (by omega) (by omega) (fun c_8 => ?_) (fun z => absurd z (by omega))
    refine lv_lload_n hx hb dX1_power_22 rfl (lv_at hl 2 rfl) ?_
    refine nv_topl (congrArg lN (show (q ^ i : Nat) = q ^ k from by rw [hi_5])) ?_
    exact hend _ _ dX1_power_23
  | succ n_5 ih_5 =>
    intro i ls hin_5 hl
    refine lv_iload hx hb dX1_power_5 (lv_at hl 3 rfl) ?_
    refine lv_iload_n hx hb dX1_power_7 rfl (lv_at hl 1 rfl) ?_
    refine nv_icmp_ge (tgt := 22) hx hb dX1_power_8 (by decide) (by omega) (by omega) (fun z => absurd z (by omega)) (fun c_8 => ?_)
    refine lv_lload_n hx hb dX1_power_11 rfl (lv_at hl 2 rfl) ?_
    refine lv_iload_n hx hb dX1_power_12 rfl (lv_at hl 0 rfl) ?_
    refine nv_i2l hx hb dX1_power_13 (by omega) ?_
    refine nv_lmul hx hb dX1_power_14 rfl ?_
    refine lv_lstore_n (lv' := [(2, .long (lN ((q ^ i) * q))), (0, .int (nI (q))), (1, .int (nI (k))), (4, .int (nI (i)))]) hx hb dX1_power_15 rfl hl (by decide) rfl (fun ls hl => ?_)
    refine lv_iinc (v := nI (i + 1)) (lv' := [(4, .int (nI (i + 1))), (2, .long (lN ((q ^ i) * q))), (0, .int (nI (q))), (1, .int (nI (k)))]) hx hb dX1_power_16 hl (k := 3) rfl (nI_add _ _) (by decide) rfl (fun ls hl => ?_)
    refine lv_goto (tgt := 5) hx hb dX1_power_19 (by decide) ?_
    exact ih_5 (i + 1) ls (by omega) (lv_cast (k := [(0, .int (nI (q))), (1, .int (nI (k))), (2, .long (lN ((q ^ i) * q))), (4, .int (nI (i + 1)))]) (lv_sub hl [2, 3, 1, 0] rfl) (lc_cons rfl (lc_cons rfl (lc_cons (congrArg (fun z : Nat => ((2 : Nat), Value.long (lN z))) (show ((q ^ i) * q : Nat) = q ^ (i + 1) from by rw [Nat.pow_succ])) (lc_cons (congrArg (fun z : Nat => ((4 : Nat), Value.int (nI z))) (show (i + 1 : Nat) = (i + 1) from by first | rfl | omega)) rfl)))))
set_option maxHeartbeats 4000000 in
set_option maxRecDepth 100000 in
theorem c_X1_falls (l : Launch) (D : va_G) (κ : Nat → ClassId) (b : Nat → Nat) (u : Nat) (v : VS) (hv : ok_v v) (c_ : Nat) (x : Nat) (y : Nat) (hc : c_ < 8) (hx2 : x ≤ 20) (hy : y ≤ 20) : Rd l yX1_falls cX1_falls 4 (some .long) 1 24 (Pw D (kt_ κ) (mw κ b u v) [.ref (b 0), .int (nI (c_)), .int (nI (x)), .int (nI (y))]) (.long (lN (lk_ v c_ x y))) := by
  refine rd_intro (own := RX1) (by decide +kernel) rfl (Nat.le_of_ble_eq_true rfl) (fun p e s m args below meth c pc ls hx hb hr hlk d => ret_L hx hb hr hlk d) ?_
  intro p e s m args below meth c ls Qq hx hb hml hown hts hK hP hend hl
  have hl : lv_has ls 4 [(0, .ref (b 0)), (1, .int (nI (c_))), (2, .int (nI (x))), (3, .int (nI (y)))] := hl
  obtain ⟨hv1, hv2, hv3, hv4, hv5, hv6⟩ := id hv
  have h4 := hv4 c_
  refine lv_aload_n hx hb dX1_falls_0 rfl (lv_at hl 0 rfl) ?_
  refine va_get (D := D) (ci := 1) (v := .ref (b 1)) (C := RX1) (T := TX1) (N := 8) hx hb hts i_X1 hown hK hP 0 rfl rfl 5 (by decide) (hts _ q_f_X1_9) (fun _ h9 => h9) rfl dX1_falls_1 ?_
  refine lv_iload_n hx hb dX1_falls_4 rfl (lv_at hl 1 rfl) ?_
  refine nv_iald hx hb hK hP 1 0 (n := 8) (v := nI (vs_ct v c_)) rfl rfl (by omega) (by decide) rfl dX1_falls_5 ?_
  refine lv_iload_n hx hb dX1_falls_6 rfl (lv_at hl 2 rfl) ?_
  refine rd_S (rest := []) ⟨hx, hb, hml, hown, hts⟩ (c_X1_power l (vs_ct v c_) (x) (by omega) (by omega)) g_X1_43 n_X1_power ⟨Nat.le_of_ble_eq_true rfl, Nat.le_of_ble_eq_true rfl⟩ rfl hl.1 rfl (Nat.le_of_ble_eq_true rfl) dX1_falls_7 ⟨Nat.zero_le _, Nat.zero_le _⟩ ?_
  refine lv_bipush (v := nI (10)) hx hb dX1_falls_10 (by decide) ?_
  refine lv_aload_n hx hb dX1_falls_12 rfl (lv_at hl 0 rfl) ?_
  refine va_get (D := D) (ci := 1) (v := .ref (b 1)) (C := RX1) (T := TX1) (N := 8) hx hb hts i_X1 hown hK hP 0 rfl rfl 5 (by decide) (hts _ q_f_X1_9) (fun _ h9 => h9) rfl dX1_falls_13 ?_
  refine lv_iload_n hx hb dX1_falls_16 rfl (lv_at hl 1 rfl) ?_
  refine nv_iald hx hb hK hP 1 0 (n := 8) (v := nI (vs_ct v c_)) rfl rfl (by omega) (by decide) rfl dX1_falls_17 ?_
  refine nv_isub (r := 10 - (vs_ct v c_)) hx hb dX1_falls_18 (by omega) ?_
  refine lv_iload_n hx hb dX1_falls_19 rfl (lv_at hl 3 rfl) ?_
  refine rd_S (rest := [.long (lN ((vs_ct v c_) ^ x))]) ⟨hx, hb, hml, hown, hts⟩ (c_X1_power l (10 - (vs_ct v c_)) (y) (by omega) (by omega)) g_X1_43 n_X1_power ⟨Nat.le_of_ble_eq_true rfl, Nat.le_of_ble_eq_true rfl⟩ rfl hl.1 rfl (Nat.le_of_ble_eq_true rfl) dX1_falls_20 ⟨Nat.zero_le _, Nat.zero_le _⟩ ?_
  refine nv_lmul hx hb dX1_falls_23 rfl ?_
  refine nv_topl (congrArg lN (show (((vs_ct v c_) ^ x) * ((10 - (vs_ct v c_)) ^ y) : Nat) = lk_ v c_ x y from by rfl)) ?_
  exact hend _ _ dX1_falls_24
set_option maxHeartbeats 4000000 in
set_option maxRecDepth 100000 in
theorem c_X1_given (l : Launch) (D : va_G) (κ : Nat → ClassId) (b : Nat → Nat) (u : Nat) (v : VS) (hv : ok_v v) (c_ : Nat) (hc : c_ < vs_c v) : Rd l yX1_given cX1_given 4 (some .int) 0 0 (Pw D (kt_ κ) (mw κ b u v) [.ref (b 0), .int (nI (c_))]) (.int (nI (gv_ v c_))) := by
  refine rd_intro (own := RX1) (by decide +kernel) rfl (Nat.le_of_ble_eq_true rfl) (fun p e s m args below meth c pc ls hx hb hr hlk d => ret_I hx hb hr hlk d) ?_
  intro p e s m args below meth c ls Qq hx hb hml hown hts hK hP hend hl
  have hl : lv_has ls 4 [(0, .ref (b 0)), (1, .int (nI (c_)))] := hl
  obtain ⟨hv1, hv2, hv3, hv4, hv5, hv6⟩ := id hv
  refine lv_iconst (v := nI (0)) hx hb dX1_given_0 (by decide) ?_
  refine lv_istore_n (lv' := [(2, .int (nI (0))), (0, .ref (b 0)), (1, .int (nI (c_)))]) hx hb dX1_given_1 rfl hl (by decide) rfl (fun ls hl => ?_)
  refine lv_iconst (v := nI (0)) hx hb dX1_given_2 (by decide) ?_
  refine lv_istore_n (lv' := [(3, .int (nI (0))), (2, .int (nI (0))), (0, .ref (b 0)), (1, .int (nI (c_)))]) hx hb dX1_given_3 rfl hl (by decide) rfl (fun ls hl => ?_)
  suffices hloop_4 : ∀ (n_4 i : Nat) (ls : Array Slot), i + n_4 = vs_n v → lv_has ls 4 [(0, .ref (b 0)), (1, .int (nI (c_))), (2, .int (nI (sm_ (fun z => sw_ v z c_) i))), (3, .int (nI (i)))] → W p l e (rm_ 0 0) s m args below meth c s.heap [] 0 0 Qq (F0 m 4 ls []) from hloop_4 (vs_n v - 0) (0) ls (by omega) (lv_cast (k := [(0, .ref (b 0)), (1, .int (nI (c_))), (2, .int (nI (0))), (3, .int (nI (0)))]) (lv_sub hl [2, 3, 1, 0] rfl) (lc_cons rfl (lc_cons rfl (lc_cons (congrArg (fun z : Nat => ((2 : Nat), Value.int (nI z))) (show (0 : Nat) = sm_ (fun z => sw_ v z c_) 0 from by first | rfl | omega)) (lc_cons rfl rfl)))))
  intro n_4
  induction n_4 with
  | zero =>
    intro i ls hin_4 hl
    have hi_4 : i = vs_n v := by omega
    refine lv_iload_n hx hb dX1_given_4 rfl (lv_at hl 3 rfl) ?_
    refine lv_aload_n hx hb dX1_given_5 rfl (lv_at hl 0 rfl) ?_
    refine va_get (D := D) (ci := 1) (v := .int (nI (vs_n v))) (C := RX1) (T := TX1) (N := 8) hx hb hts i_X1 hown hK hP 0 rfl rfl 2 (by decide) (hts _ q_f_X1_30) (fun _ h9 => h9) rfl dX1_given_6 ?_
    refine nv_icmp_ge (tgt := 38) hx hb dX1_given_9 (by decide) (by omega) (by omega) (fun c_9 => ?_) (fun z => absurd z (by omega))
    refine lv_iload_n hx hb dX1_given_38 rfl (lv_at hl 2 rfl) ?_
    refine nv_topi (congrArg nI (show (sm_ (fun z => sw_ v z c_) i : Nat) = gv_ v c_ from by rw [hi_4]; rfl)) ?_
    exact hend _ _ dX1_given_39
  | succ n_4 ih_4 =>
    intro i ls hin_4 hl
    refine lv_iload_n hx hb dX1_given_4 rfl (lv_at hl 3 rfl) ?_
    refine lv_aload_n hx hb dX1_given_5 rfl (lv_at hl 0 rfl) ?_
    refine va_get (D := D) (ci := 1) (v := .int (nI (vs_n v))) (C := RX1) (T := TX1) (N := 8) hx hb hts i_X1 hown hK hP 0 rfl rfl 2 (by decide) (hts _ q_f_X1_30) (fun _ h9 => h9) rfl dX1_given_6 ?_
    refine nv_icmp_ge (tgt := 38) hx hb dX1_given_9 (by decide) (by omega) (by omega) (fun z => absurd z (by omega)) (fun c_9 => ?_)
    refine lv_iload_n hx hb dX1_given_12 rfl (lv_at hl 2 rfl) ?_
    refine lv_aload_n hx hb dX1_given_13 rfl (lv_at hl 0 rfl) ?_
    refine va_get (D := D) (ci := 1) (v := .ref (b 2)) (C := RX1) (T := TX1) (N := 8) hx hb hts i_X1 hown hK hP 0 rfl rfl 6 (by decide) (hts _ q_f_X1_13) (fun _ h9 => h9) rfl dX1_given_14 ?_
    refine lv_iload_n hx hb dX1_given_17 rfl (lv_at hl 3 rfl) ?_
    refine nv_iald hx hb hK hP 2 0 (n := 4) (v := nI (vs_so v i)) rfl rfl (by omega) (by decide) rfl dX1_given_18 ?_
    refine lv_aload_n hx hb dX1_given_19 rfl (lv_at hl 0 rfl) ?_
    refine va_get (D := D) (ci := 1) (v := .ref (b 3)) (C := RX1) (T := TX1) (N := 8) hx hb hts i_X1 hown hK hP 0 rfl rfl 7 (by decide) (hts _ q_f_X1_16) (fun _ h9 => h9) rfl dX1_given_20 ?_
    refine lv_iconst (v := nI (4)) hx hb dX1_given_23 (by decide) ?_
    refine lv_iload_n hx hb dX1_given_24 rfl (lv_at hl 1 rfl) ?_
    refine nv_imul hx hb dX1_given_25 rfl ?_
    refine lv_iload_n hx hb dX1_given_26 rfl (lv_at hl 3 rfl) ?_
    refine nv_iadd hx hb dX1_given_27 rfl ?_
    refine nv_iald hx hb hK hP 3 0 (n := 32) (v := nI (ms_ v ((4 * c_) + i))) rfl rfl (by omega) (by decide) rfl dX1_given_28 ?_
    refine nv_topi (congrArg nI (show (ms_ v ((4 * c_) + i) : Nat) = vs_sh v i c_ from by exact ms_at (by omega) hc (by omega))) ?_
    refine nv_imul hx hb dX1_given_29 rfl ?_
    refine nv_iadd hx hb dX1_given_30 rfl ?_
    refine lv_istore_n (lv' := [(2, .int (nI ((sm_ (fun z => sw_ v z c_) i) + ((vs_so v i) * (vs_sh v i c_))))), (0, .ref (b 0)), (1, .int (nI (c_))), (3, .int (nI (i)))]) hx hb dX1_given_31 rfl hl (by decide) rfl (fun ls hl => ?_)
    refine lv_iinc (v := nI (i + 1)) (lv' := [(3, .int (nI (i + 1))), (2, .int (nI ((sm_ (fun z => sw_ v z c_) i) + ((vs_so v i) * (vs_sh v i c_))))), (0, .ref (b 0)), (1, .int (nI (c_)))]) hx hb dX1_given_32 hl (k := 3) rfl (nI_add _ _) (by decide) rfl (fun ls hl => ?_)
    refine lv_goto (tgt := 4) hx hb dX1_given_35 (by decide) ?_
    exact ih_4 (i + 1) ls (by omega) (lv_cast (k := [(0, .ref (b 0)), (1, .int (nI (c_))), (2, .int (nI ((sm_ (fun z => sw_ v z c_) i) + ((vs_so v i) * (vs_sh v i c_))))), (3, .int (nI (i + 1)))]) (lv_sub hl [2, 3, 1, 0] rfl) (lc_cons rfl (lc_cons rfl (lc_cons (congrArg (fun z : Nat => ((2 : Nat), Value.int (nI z))) (show ((sm_ (fun z => sw_ v z c_) i) + ((vs_so v i) * (vs_sh v i c_)) : Nat) = sm_ (fun z => sw_ v z c_) (i + 1) from by first | rfl | omega)) (lc_cons (congrArg (fun z : Nat => ((3 : Nat), Value.int (nI z))) (show (i + 1 : Nat) = (i + 1) from by first | rfl | omega)) rfl)))))
set_option maxHeartbeats 4000000 in
set_option maxRecDepth 100000 in
theorem c_X1_weight (l : Launch) (D : va_G) (κ : Nat → ClassId) (b : Nat → Nat) (u : Nat) (v : VS) (hv : ok_v v) (c_ : Nat) (x : Nat) (y : Nat) (hc : c_ < vs_c v) (hx2 : x ≤ 20) (hy : y ≤ 20) : Rd l yX1_weight cX1_weight 4 (some .long) 2 47 (Pw D (kt_ κ) (mw κ b u v) [.ref (b 0), .int (nI (c_)), .int (nI (x)), .int (nI (y))]) (.long (lN (wt_ v c_ x y))) := by
  refine rd_intro (own := RX1) (by decide +kernel) rfl (Nat.le_of_ble_eq_true rfl) (fun p e s m args below meth c pc ls hx hb hr hlk d => ret_L hx hb hr hlk d) ?_
  intro p e s m args below meth c ls Qq hx hb hml hown hts hK hP hend hl
  have hl : lv_has ls 4 [(0, .ref (b 0)), (1, .int (nI (c_))), (2, .int (nI (x))), (3, .int (nI (y)))] := hl
  obtain ⟨hv1, hv2, hv3, hv4, hv5, hv6⟩ := id hv
  have g1 := gv_le hv c_
  refine lv_aload_n hx hb dX1_weight_0 rfl (lv_at hl 0 rfl) ?_
  refine lv_iload_n hx hb dX1_weight_1 rfl (lv_at hl 1 rfl) ?_
  refine rd_V (rest := []) ⟨hx, hb, hml, hown, hts⟩ (c_X1_given l D κ b u v hv (c_) (by omega)) g_X1_47 n_X1_given ⟨Nat.le_of_ble_eq_true rfl, Nat.le_of_ble_eq_true rfl⟩ hK hP rfl rfl rfl hl.1 rfl (Nat.le_of_ble_eq_true rfl) dX1_weight_2 ⟨Nat.zero_le _, Nat.zero_le _⟩ ?_
  refine nv_i2l hx hb dX1_weight_5 (by omega) ?_
  refine lv_aload_n hx hb dX1_weight_6 rfl (lv_at hl 0 rfl) ?_
  refine lv_iload_n hx hb dX1_weight_7 rfl (lv_at hl 1 rfl) ?_
  refine lv_iload_n hx hb dX1_weight_8 rfl (lv_at hl 2 rfl) ?_
  refine lv_iload_n hx hb dX1_weight_9 rfl (lv_at hl 3 rfl) ?_
  refine rd_V (rest := [.long (lN (gv_ v c_))]) ⟨hx, hb, hml, hown, hts⟩ (c_X1_falls l D κ b u v hv (c_) (x) (y) (by omega) (by omega) (by omega)) g_X1_51 n_X1_falls ⟨Nat.le_of_ble_eq_true rfl, Nat.le_of_ble_eq_true rfl⟩ hK hP rfl rfl rfl hl.1 rfl (Nat.le_of_ble_eq_true rfl) dX1_weight_10 ⟨Nat.zero_le _, Nat.zero_le _⟩ ?_
  refine nv_lmul hx hb dX1_weight_13 rfl ?_
  refine nv_topl (congrArg lN (show ((gv_ v c_) * (lk_ v c_ x y) : Nat) = wt_ v c_ x y from by rfl)) ?_
  exact hend _ _ dX1_weight_14
set_option maxHeartbeats 4000000 in
set_option maxRecDepth 100000 in
theorem c_X1_whole (l : Launch) (D : va_G) (κ : Nat → ClassId) (b : Nat → Nat) (u : Nat) (v : VS) (hv : ok_v v) (x : Nat) (y : Nat) (hx2 : x ≤ 20) (hy : y ≤ 20) : Rd l yX1_whole cX1_whole 6 (some .long) 3 70 (Pw D (kt_ κ) (mw κ b u v) [.ref (b 0), .int (nI (x)), .int (nI (y))]) (.long (lN (wl_ v x y))) := by
  refine rd_intro (own := RX1) (by decide +kernel) rfl (Nat.le_of_ble_eq_true rfl) (fun p e s m args below meth c pc ls hx hb hr hlk d => ret_L hx hb hr hlk d) ?_
  intro p e s m args below meth c ls Qq hx hb hml hown hts hK hP hend hl
  have hl : lv_has ls 6 [(0, .ref (b 0)), (1, .int (nI (x))), (2, .int (nI (y)))] := hl
  obtain ⟨hv1, hv2, hv3, hv4, hv5, hv6⟩ := id hv
  refine lv_lconst (v := lN (0)) hx hb dX1_whole_0 (by decide) ?_
  refine lv_lstore_n (lv' := [(3, .long (lN (0))), (0, .ref (b 0)), (1, .int (nI (x))), (2, .int (nI (y)))]) hx hb dX1_whole_1 rfl hl (by decide) rfl (fun ls hl => ?_)
  refine lv_iconst (v := nI (0)) hx hb dX1_whole_2 (by decide) ?_
  refine lv_istore (lv' := [(5, .int (nI (0))), (3, .long (lN (0))), (0, .ref (b 0)), (1, .int (nI (x))), (2, .int (nI (y)))]) hx hb dX1_whole_3 hl (by decide) rfl (fun ls hl => ?_)
  suffices hloop_5 : ∀ (n_5 i : Nat) (ls : Array Slot), i + n_5 = vs_c v → lv_has ls 6 [(0, .ref (b 0)), (1, .int (nI (x))), (2, .int (nI (y))), (3, .long (lN (sm_ (fun z => wt_ v z x y) i))), (5, .int (nI (i)))] → W p l e (rm_ 3 70) s m args below meth c s.heap [] 0 0 Qq (F0 m 5 ls []) from hloop_5 (vs_c v - 0) (0) ls (by omega) (lv_cast (k := [(0, .ref (b 0)), (1, .int (nI (x))), (2, .int (nI (y))), (3, .long (lN (0))), (5, .int (nI (0)))]) (lv_sub hl [2, 3, 4, 1, 0] rfl) (lc_cons rfl (lc_cons rfl (lc_cons rfl (lc_cons (congrArg (fun z : Nat => ((3 : Nat), Value.long (lN z))) (show (0 : Nat) = sm_ (fun z => wt_ v z x y) 0 from by first | rfl | omega)) (lc_cons rfl rfl))))))
  intro n_5
  induction n_5 with
  | zero =>
    intro i ls hin_5 hl
    have hi_5 : i = vs_c v := by omega
    refine lv_iload hx hb dX1_whole_5 (lv_at hl 4 rfl) ?_
    refine lv_aload_n hx hb dX1_whole_7 rfl (lv_at hl 0 rfl) ?_
    refine va_get (D := D) (ci := 1) (v := .int (nI (vs_c v))) (C := RX1) (T := TX1) (N := 8) hx hb hts i_X1 hown hK hP 0 rfl rfl 1 (by decide) (hts _ q_f_X1_23) (fun _ h9 => h9) rfl dX1_whole_8 ?_
    refine nv_icmp_ge (tgt := 31) hx hb dX1_whole_11 (by decide) (by omega) (by omega) (fun c_11 => ?_) (fun z => absurd z (by omega))
    refine lv_lload_n hx hb dX1_whole_31 rfl (lv_at hl 3 rfl) ?_
    refine nv_topl (congrArg lN (show (sm_ (fun z => wt_ v z x y) i : Nat) = wl_ v x y from by rw [hi_5]; rfl)) ?_
    exact hend _ _ dX1_whole_32
  | succ n_5 ih_5 =>
    intro i ls hin_5 hl
    refine lv_iload hx hb dX1_whole_5 (lv_at hl 4 rfl) ?_
    refine lv_aload_n hx hb dX1_whole_7 rfl (lv_at hl 0 rfl) ?_
    refine va_get (D := D) (ci := 1) (v := .int (nI (vs_c v))) (C := RX1) (T := TX1) (N := 8) hx hb hts i_X1 hown hK hP 0 rfl rfl 1 (by decide) (hts _ q_f_X1_23) (fun _ h9 => h9) rfl dX1_whole_8 ?_
    refine nv_icmp_ge (tgt := 31) hx hb dX1_whole_11 (by decide) (by omega) (by omega) (fun z => absurd z (by omega)) (fun c_11 => ?_)
    refine lv_lload_n hx hb dX1_whole_14 rfl (lv_at hl 3 rfl) ?_
    refine lv_aload_n hx hb dX1_whole_15 rfl (lv_at hl 0 rfl) ?_
    refine lv_iload hx hb dX1_whole_16 (lv_at hl 4 rfl) ?_
    refine lv_iload_n hx hb dX1_whole_18 rfl (lv_at hl 1 rfl) ?_
    refine lv_iload_n hx hb dX1_whole_19 rfl (lv_at hl 2 rfl) ?_
    refine rd_V (rest := [.long (lN (sm_ (fun z => wt_ v z x y) i))]) ⟨hx, hb, hml, hown, hts⟩ (c_X1_weight l D κ b u v hv (i) (x) (y) (by omega) (by omega) (by omega)) g_X1_55 n_X1_weight ⟨Nat.le_of_ble_eq_true rfl, Nat.le_of_ble_eq_true rfl⟩ hK hP rfl rfl rfl hl.1 rfl (Nat.le_of_ble_eq_true rfl) dX1_whole_20 ⟨Nat.zero_le _, Nat.zero_le _⟩ ?_
    refine nv_ladd hx hb dX1_whole_23 rfl ?_
    refine lv_lstore_n (lv' := [(3, .long (lN ((sm_ (fun z => wt_ v z x y) i) + (wt_ v i x y)))), (0, .ref (b 0)), (1, .int (nI (x))), (2, .int (nI (y))), (5, .int (nI (i)))]) hx hb dX1_whole_24 rfl hl (by decide) rfl (fun ls hl => ?_)
    refine lv_iinc (v := nI (i + 1)) (lv' := [(5, .int (nI (i + 1))), (3, .long (lN ((sm_ (fun z => wt_ v z x y) i) + (wt_ v i x y)))), (0, .ref (b 0)), (1, .int (nI (x))), (2, .int (nI (y)))]) hx hb dX1_whole_25 hl (k := 4) rfl (nI_add _ _) (by decide) rfl (fun ls hl => ?_)
    refine lv_goto (tgt := 5) hx hb dX1_whole_28 (by decide) ?_
    exact ih_5 (i + 1) ls (by omega) (lv_cast (k := [(0, .ref (b 0)), (1, .int (nI (x))), (2, .int (nI (y))), (3, .long (lN ((sm_ (fun z => wt_ v z x y) i) + (wt_ v i x y)))), (5, .int (nI (i + 1)))]) (lv_sub hl [2, 3, 4, 1, 0] rfl) (lc_cons rfl (lc_cons rfl (lc_cons rfl (lc_cons (congrArg (fun z : Nat => ((3 : Nat), Value.long (lN z))) (show ((sm_ (fun z => wt_ v z x y) i) + (wt_ v i x y) : Nat) = sm_ (fun z => wt_ v z x y) (i + 1) from by first | rfl | omega)) (lc_cons (congrArg (fun z : Nat => ((5 : Nat), Value.int (nI z))) (show (i + 1 : Nat) = (i + 1) from by first | rfl | omega)) rfl))))))
set_option maxHeartbeats 4000000 in
set_option maxRecDepth 100000 in
theorem c_X1_chance (l : Launch) (D : va_G) (κ : Nat → ClassId) (b : Nat → Nat) (u : Nat) (v : VS) (hv : ok_v v) (h_ : Bool) (x : Nat) (y : Nat) (hx2 : x ≤ 13) (hy : y ≤ 13) : Rd l yX1_chance cX1_chance 4 (some .long) 4 95 (Pw D (kt_ κ) (mw κ b u v) [.ref (b 0), .int (bI (h_)), .int (nI (x)), .int (nI (y))]) (.long (lN (ch_ v h_ x y))) := by
  refine rd_intro (own := RX1) (by decide +kernel) rfl (Nat.le_of_ble_eq_true rfl) (fun p e s m args below meth c pc ls hx hb hr hlk d => ret_L hx hb hr hlk d) ?_
  intro p e s m args below meth c ls Qq hx hb hml hown hts hK hP hend hl
  have hl : lv_has ls 4 [(0, .ref (b 0)), (1, .int (bI (h_))), (2, .int (nI (x))), (3, .int (nI (y)))] := hl
  obtain ⟨hv1, hv2, hv3, hv4, hv5, hv6⟩ := id hv
  refine lv_iload_n hx hb dX1_chance_0 rfl (lv_at hl 1 rfl) ?_
  refine bv_if_eq (tgt := 15) hx hb dX1_chance_1 (by decide) (fun c_1 => ?_) (fun c_1 => ?_)
  · refine lv_aload_n hx hb dX1_chance_15 rfl (lv_at hl 0 rfl) ?_
    refine lv_iload_n hx hb dX1_chance_16 rfl (lv_at hl 2 rfl) ?_
    refine lv_iload_n hx hb dX1_chance_17 rfl (lv_at hl 3 rfl) ?_
    refine lv_iconst (v := nI (1)) hx hb dX1_chance_18 (by decide) ?_
    refine nv_iadd hx hb dX1_chance_19 rfl ?_
    refine rd_V (rest := []) ⟨hx, hb, hml, hown, hts⟩ (c_X1_whole l D κ b u v hv (x) (y + 1) (by omega) (by omega)) g_X1_58 n_X1_whole ⟨Nat.le_of_ble_eq_true rfl, Nat.le_of_ble_eq_true rfl⟩ hK hP rfl rfl rfl hl.1 rfl (Nat.le_of_ble_eq_true rfl) dX1_chance_20 ⟨Nat.zero_le _, Nat.zero_le _⟩ ?_
    refine nv_topl (congrArg lN (show (wl_ v x (y + 1) : Nat) = ch_ v h_ x y from by simp [ch_, c_1])) ?_
    exact hend _ _ dX1_chance_23
  · refine lv_aload_n hx hb dX1_chance_4 rfl (lv_at hl 0 rfl) ?_
    refine lv_iload_n hx hb dX1_chance_5 rfl (lv_at hl 2 rfl) ?_
    refine lv_iconst (v := nI (1)) hx hb dX1_chance_6 (by decide) ?_
    refine nv_iadd hx hb dX1_chance_7 rfl ?_
    refine lv_iload_n hx hb dX1_chance_8 rfl (lv_at hl 3 rfl) ?_
    refine rd_V (rest := []) ⟨hx, hb, hml, hown, hts⟩ (c_X1_whole l D κ b u v hv (x + 1) (y) (by omega) (by omega)) g_X1_58 n_X1_whole ⟨Nat.le_of_ble_eq_true rfl, Nat.le_of_ble_eq_true rfl⟩ hK hP rfl rfl rfl hl.1 rfl (Nat.le_of_ble_eq_true rfl) dX1_chance_9 ⟨Nat.zero_le _, Nat.zero_le _⟩ ?_
    refine lv_goto (tgt := 23) hx hb dX1_chance_12 (by decide) ?_
    refine nv_topl (congrArg lN (show (wl_ v (x + 1) y : Nat) = ch_ v h_ x y from by simp [ch_, c_1])) ?_
    exact hend _ _ dX1_chance_23
set_option maxHeartbeats 4000000 in
set_option maxRecDepth 100000 in
theorem c_X1_surprise (l : Launch) (D : va_G) (κ : Nat → ClassId) (b : Nat → Nat) (u : Nat) (v : VS) (hv : ok_v v) (h_ : Bool) (x : Nat) (y : Nat) (hxy : x + y ≤ 12) (hp : 0 < ch_ v h_ x y) : Rd l yX1_surprise cX1_surprise 9 (some .int) 5 118 (Pw D (kt_ κ) (mw κ b u v) [.ref (b 0), .int (bI (h_)), .int (nI (x)), .int (nI (y))]) (.int (nI (su_ v h_ x y))) := by
  refine rd_intro (own := RX1) (by decide +kernel) rfl (Nat.le_of_ble_eq_true rfl) (fun p e s m args below meth c pc ls hx hb hr hlk d => ret_I hx hb hr hlk d) ?_
  intro p e s m args below meth c ls Qq hx hb hml hown hts hK hP hend hl
  have hl : lv_has ls 9 [(0, .ref (b 0)), (1, .int (bI (h_))), (2, .int (nI (x))), (3, .int (nI (y)))] := hl
  obtain ⟨hv1, hv2, hv3, hv4, hv5, hv6⟩ := id hv
  have hb1 := wl_b12 hv hxy
  have hb2 := ch_b hv h_ hxy
  refine lv_ldc2 (own := RX1) (index := 61) (v := lN (10)) hx hb hown (hts _ q_k_X1_61) dX1_surprise_0 ?_
  refine lv_aload_n hx hb dX1_surprise_3 rfl (lv_at hl 0 rfl) ?_
  refine lv_iload_n hx hb dX1_surprise_4 rfl (lv_at hl 2 rfl) ?_
  refine lv_iload_n hx hb dX1_surprise_5 rfl (lv_at hl 3 rfl) ?_
  refine rd_V (rest := [.long (lN (10))]) ⟨hx, hb, hml, hown, hts⟩ (c_X1_whole l D κ b u v hv (x) (y) (by omega) (by omega)) g_X1_58 n_X1_whole ⟨Nat.le_of_ble_eq_true rfl, Nat.le_of_ble_eq_true rfl⟩ hK hP rfl rfl rfl hl.1 rfl (Nat.le_of_ble_eq_true rfl) dX1_surprise_6 ⟨Nat.zero_le _, Nat.zero_le _⟩ ?_
  refine nv_lmul hx hb dX1_surprise_9 rfl ?_
  refine lv_lstore (lv' := [(4, .long (lN (10 * (wl_ v x y)))), (0, .ref (b 0)), (1, .int (bI (h_))), (2, .int (nI (x))), (3, .int (nI (y)))]) hx hb dX1_surprise_10 hl (by decide) rfl (fun ls hl => ?_)
  refine lv_iconst (v := nI (0)) hx hb dX1_surprise_12 (by decide) ?_
  refine lv_istore (lv' := [(6, .int (nI (0))), (4, .long (lN (10 * (wl_ v x y)))), (0, .ref (b 0)), (1, .int (bI (h_))), (2, .int (nI (x))), (3, .int (nI (y)))]) hx hb dX1_surprise_13 hl (by decide) rfl (fun ls hl => ?_)
  refine lv_ldc2 (own := RX1) (index := 63) (v := lN (2)) hx hb hown (hts _ q_k_X1_63) dX1_surprise_15 ?_
  refine lv_aload_n hx hb dX1_surprise_18 rfl (lv_at hl 2 rfl) ?_
  refine lv_iload_n hx hb dX1_surprise_19 rfl (lv_at hl 3 rfl) ?_
  refine lv_iload_n hx hb dX1_surprise_20 rfl (lv_at hl 4 rfl) ?_
  refine lv_iload_n hx hb dX1_surprise_21 rfl (lv_at hl 5 rfl) ?_
  refine rd_V (rest := [.long (lN (2))]) ⟨hx, hb, hml, hown, hts⟩ (c_X1_chance l D κ b u v hv (h_) (x) (y) (by omega) (by omega)) g_X1_65 n_X1_chance ⟨Nat.le_of_ble_eq_true rfl, Nat.le_of_ble_eq_true rfl⟩ hK hP rfl rfl rfl hl.1 rfl (Nat.le_of_ble_eq_true rfl) dX1_surprise_22 ⟨Nat.zero_le _, Nat.zero_le _⟩ ?_
  refine nv_lmul hx hb dX1_surprise_25 rfl ?_
  refine lv_lstore (lv' := [(7, .long (lN (2 * (ch_ v h_ x y)))), (6, .int (nI (0))), (4, .long (lN (10 * (wl_ v x y)))), (0, .ref (b 0)), (1, .int (bI (h_))), (2, .int (nI (x))), (3, .int (nI (y)))]) hx hb dX1_surprise_26 hl (by decide) rfl (fun ls hl => ?_)
  suffices hloop_28 : ∀ (n_28 i : Nat) (ls : Array Slot), i + n_28 = 60 → lv_has ls 9 [(0, .ref (b 0)), (1, .int (bI (h_))), (2, .int (nI (x))), (3, .int (nI (y))), (4, .long (lN (10 * (wl_ v x y)))), (6, .int (nI (i))), (7, .long (lN (2 ^ i * (2 * ch_ v h_ x y))))] → (su_ v h_ x y = sd_ (2 ^ i * (2 * ch_ v h_ x y)) (10 * wl_ v x y) (60 - i) + i) → (2 ^ i * (2 * ch_ v h_ x y) ≤ 51840000000000000) → W p l e (rm_ 5 118) s m args below meth c s.heap [] 0 0 Qq (F0 m 28 ls []) from hloop_28 (60 - 0) (0) ls (by omega) (lv_cast (k := [(0, .ref (b 0)), (1, .int (bI (h_))), (2, .int (nI (x))), (3, .int (nI (y))), (4, .long (lN (10 * (wl_ v x y)))), (6, .int (nI (0))), (7, .long (lN (2 * (ch_ v h_ x y))))]) (lv_sub hl [3, 4, 5, 6, 2, 1, 0] rfl) (lc_cons rfl (lc_cons rfl (lc_cons rfl (lc_cons rfl (lc_cons rfl (lc_cons rfl (lc_cons (congrArg (fun z : Nat => ((7 : Nat), Value.long (lN z))) (show (2 * (ch_ v h_ x y) : Nat) = 2 ^ 0 * (2 * ch_ v h_ x y) from by rw [Nat.pow_zero, Nat.one_mul])) rfl)))))))) (by rw [Nat.pow_zero, Nat.one_mul]; rfl) (by rw [Nat.pow_zero, Nat.one_mul]; omega)
  intro n_28
  induction n_28 with
  | zero =>
    intro i ls hin_28 hl hj1 hj2
    have hi_28 : i = 60 := by omega
    refine lv_lload hx hb dX1_surprise_28 (lv_at hl 6 rfl) ?_
    refine lv_lload hx hb dX1_surprise_30 (lv_at hl 4 rfl) ?_
    refine nv_lc_gt (tgt := 50) hx hb dX1_surprise_32 dX1_surprise_33 (by decide) (by omega) (by omega) (fun c_33 => ?_) (fun z => absurd z (su_big hp hi_28 (by omega)))
    refine lv_iload hx hb dX1_surprise_50 (lv_at hl 5 rfl) ?_
    refine nv_topi (congrArg nI (show (i : Nat) = su_ v h_ x y from by exact su_stop hj1 c_33)) ?_
    exact hend _ _ dX1_surprise_52
  | succ n_28 ih_28 =>
    intro i ls hin_28 hl hj1 hj2
    refine lv_lload hx hb dX1_surprise_28 (lv_at hl 6 rfl) ?_
    refine lv_lload hx hb dX1_surprise_30 (lv_at hl 4 rfl) ?_
    refine nv_lc_gt (tgt := 50) hx hb dX1_surprise_32 dX1_surprise_33 (by decide) (by omega) (by omega) (fun c_33 => ?_) (fun c_33 => ?_)
    · refine lv_iload hx hb dX1_surprise_50 (lv_at hl 5 rfl) ?_
      refine nv_topi (congrArg nI (show (i : Nat) = su_ v h_ x y from by exact su_stop hj1 c_33)) ?_
      exact hend _ _ dX1_surprise_52
    · refine lv_iinc (v := nI (i + 1)) (lv' := [(6, .int (nI (i + 1))), (0, .ref (b 0)), (1, .int (bI (h_))), (2, .int (nI (x))), (3, .int (nI (y))), (4, .long (lN (10 * (wl_ v x y)))), (7, .long (lN (2 ^ i * (2 * ch_ v h_ x y))))]) hx hb dX1_surprise_36 hl (k := 5) rfl (nI_add _ _) (by decide) rfl (fun ls hl => ?_)
      refine lv_lload hx hb dX1_surprise_39 (lv_at hl 6 rfl) ?_
      refine lv_ldc2 (own := RX1) (index := 63) (v := lN (2)) hx hb hown (hts _ q_k_X1_63) dX1_surprise_41 ?_
      refine nv_lmul hx hb dX1_surprise_44 rfl ?_
      refine lv_lstore (lv' := [(7, .long (lN ((2 ^ i * (2 * ch_ v h_ x y)) * 2))), (6, .int (nI (i + 1))), (0, .ref (b 0)), (1, .int (bI (h_))), (2, .int (nI (x))), (3, .int (nI (y))), (4, .long (lN (10 * (wl_ v x y))))]) hx hb dX1_surprise_45 hl (by decide) rfl (fun ls hl => ?_)
      refine lv_goto (tgt := 28) hx hb dX1_surprise_47 (by decide) ?_
      exact ih_28 (i + 1) ls (by omega) (lv_cast (k := [(0, .ref (b 0)), (1, .int (bI (h_))), (2, .int (nI (x))), (3, .int (nI (y))), (4, .long (lN (10 * (wl_ v x y)))), (6, .int (nI (i + 1))), (7, .long (lN ((2 ^ i * (2 * ch_ v h_ x y)) * 2)))]) (lv_sub hl [2, 3, 4, 5, 6, 1, 0] rfl) (lc_cons rfl (lc_cons rfl (lc_cons rfl (lc_cons rfl (lc_cons rfl (lc_cons (congrArg (fun z : Nat => ((6 : Nat), Value.int (nI z))) (show (i + 1 : Nat) = (i + 1) from by first | rfl | omega)) (lc_cons (congrArg (fun z : Nat => ((7 : Nat), Value.long (lN z))) (show ((2 ^ i * (2 * ch_ v h_ x y)) * 2 : Nat) = 2 ^ (i + 1) * (2 * ch_ v h_ x y) from by rw [Nat.pow_succ, Nat.mul_right_comm])) rfl)))))))) (su_step hj1 (by omega) c_33) (by rw [Nat.pow_succ, Nat.mul_right_comm]; omega)
set_option maxHeartbeats 4000000 in
set_option maxRecDepth 100000 in
theorem c_X1_leader (l : Launch) (D : va_G) (κ : Nat → ClassId) (b : Nat → Nat) (u : Nat) (v : VS) (hv : ok_v v) (x : Nat) (y : Nat) (hxy : x + y ≤ 13) : Rd l yX1_leader cX1_leader 5 (some .int) 3 70 (Pw D (kt_ κ) (mw κ b u v) [.ref (b 0), .int (nI (x)), .int (nI (y))]) (.int (nI (ld_ v x y (vs_c v)))) := by
  refine rd_intro (own := RX1) (by decide +kernel) rfl (Nat.le_of_ble_eq_true rfl) (fun p e s m args below meth c pc ls hx hb hr hlk d => ret_I hx hb hr hlk d) ?_
  intro p e s m args below meth c ls Qq hx hb hml hown hts hK hP hend hl
  have hl : lv_has ls 5 [(0, .ref (b 0)), (1, .int (nI (x))), (2, .int (nI (y)))] := hl
  obtain ⟨hv1, hv2, hv3, hv4, hv5, hv6⟩ := id hv
  refine lv_iconst (v := nI (0)) hx hb dX1_leader_0 (by decide) ?_
  refine lv_istore_n (lv' := [(3, .int (nI (0))), (0, .ref (b 0)), (1, .int (nI (x))), (2, .int (nI (y)))]) hx hb dX1_leader_1 rfl hl (by decide) rfl (fun ls hl => ?_)
  refine lv_iconst (v := nI (1)) hx hb dX1_leader_2 (by decide) ?_
  refine lv_istore (lv' := [(4, .int (nI (1))), (3, .int (nI (0))), (0, .ref (b 0)), (1, .int (nI (x))), (2, .int (nI (y)))]) hx hb dX1_leader_3 hl (by decide) rfl (fun ls hl => ?_)
  suffices hloop_5 : ∀ (n_5 i : Nat) (ls : Array Slot), i + n_5 = vs_c v - 1 + 1 → lv_has ls 5 [(0, .ref (b 0)), (1, .int (nI (x))), (2, .int (nI (y))), (3, .int (nI (ld_ v x y i))), (4, .int (nI (i)))] → (1 ≤ i) → W p l e (rm_ 3 70) s m args below meth c s.heap [] 0 0 Qq (F0 m 5 ls []) from hloop_5 (vs_c v - 1 + 1 - 1) (1) ls (by omega) (lv_cast (k := [(0, .ref (b 0)), (1, .int (nI (x))), (2, .int (nI (y))), (3, .int (nI (0))), (4, .int (nI (1)))]) (lv_sub hl [2, 3, 4, 1, 0] rfl) (lc_cons rfl (lc_cons rfl (lc_cons rfl (lc_cons (congrArg (fun z : Nat => ((3 : Nat), Value.int (nI z))) (show (0 : Nat) = ld_ v x y 1 from by simp [ld_])) (lc_cons rfl rfl)))))) (by omega)
  intro n_5
  induction n_5 with
  | zero =>
    intro i ls hin_5 hl hi1
    have hi_5 : i = vs_c v - 1 + 1 := by omega
    have hb1 := wt_b hv i hxy
    have hb2 := wt_b hv (ld_ v x y i) hxy
    have hb3 := ld_lt v x y i (by omega)
    refine lv_iload hx hb dX1_leader_5 (lv_at hl 4 rfl) ?_
    refine lv_aload_n hx hb dX1_leader_7 rfl (lv_at hl 0 rfl) ?_
    refine va_get (D := D) (ci := 1) (v := .int (nI (vs_c v))) (C := RX1) (T := TX1) (N := 8) hx hb hts i_X1 hown hK hP 0 rfl rfl 1 (by decide) (hts _ q_f_X1_23) (fun _ h9 => h9) rfl dX1_leader_8 ?_
    refine nv_icmp_ge (tgt := 42) hx hb dX1_leader_11 (by decide) (by omega) (by omega) (fun c_11 => ?_) (fun z => absurd z (by omega))
    refine lv_iload_n hx hb dX1_leader_42 rfl (lv_at hl 3 rfl) ?_
    refine nv_topi (congrArg nI (show (ld_ v x y i : Nat) = ld_ v x y (vs_c v) from by exact ld_exit hi_5)) ?_
    exact hend _ _ dX1_leader_43
  | succ n_5 ih_5 =>
    intro i ls hin_5 hl hi1
    have hb1 := wt_b hv i hxy
    have hb2 := wt_b hv (ld_ v x y i) hxy
    have hb3 := ld_lt v x y i (by omega)
    refine lv_iload hx hb dX1_leader_5 (lv_at hl 4 rfl) ?_
    refine lv_aload_n hx hb dX1_leader_7 rfl (lv_at hl 0 rfl) ?_
    refine va_get (D := D) (ci := 1) (v := .int (nI (vs_c v))) (C := RX1) (T := TX1) (N := 8) hx hb hts i_X1 hown hK hP 0 rfl rfl 1 (by decide) (hts _ q_f_X1_23) (fun _ h9 => h9) rfl dX1_leader_8 ?_
    refine nv_icmp_ge (tgt := 42) hx hb dX1_leader_11 (by decide) (by omega) (by omega) (fun z => absurd z (by omega)) (fun c_11 => ?_)
    refine lv_aload_n hx hb dX1_leader_14 rfl (lv_at hl 0 rfl) ?_
    refine lv_iload hx hb dX1_leader_15 (lv_at hl 4 rfl) ?_
    refine lv_iload_n hx hb dX1_leader_17 rfl (lv_at hl 1 rfl) ?_
    refine lv_iload_n hx hb dX1_leader_18 rfl (lv_at hl 2 rfl) ?_
    refine rd_V (rest := []) ⟨hx, hb, hml, hown, hts⟩ (c_X1_weight l D κ b u v hv (i) (x) (y) (by omega) (by omega) (by omega)) g_X1_55 n_X1_weight ⟨Nat.le_of_ble_eq_true rfl, Nat.le_of_ble_eq_true rfl⟩ hK hP rfl rfl rfl hl.1 rfl (Nat.le_of_ble_eq_true rfl) dX1_leader_19 ⟨Nat.zero_le _, Nat.zero_le _⟩ ?_
    refine lv_aload_n hx hb dX1_leader_22 rfl (lv_at hl 0 rfl) ?_
    refine lv_iload_n hx hb dX1_leader_23 rfl (lv_at hl 3 rfl) ?_
    refine lv_iload_n hx hb dX1_leader_24 rfl (lv_at hl 1 rfl) ?_
    refine lv_iload_n hx hb dX1_leader_25 rfl (lv_at hl 2 rfl) ?_
    refine rd_V (rest := [.long (lN (wt_ v i x y))]) ⟨hx, hb, hml, hown, hts⟩ (c_X1_weight l D κ b u v hv (ld_ v x y i) (x) (y) (by omega) (by omega) (by omega)) g_X1_55 n_X1_weight ⟨Nat.le_of_ble_eq_true rfl, Nat.le_of_ble_eq_true rfl⟩ hK hP rfl rfl rfl hl.1 rfl (Nat.le_of_ble_eq_true rfl) dX1_leader_26 ⟨Nat.zero_le _, Nat.zero_le _⟩ ?_
    refine nv_lc_le (tgt := 36) hx hb dX1_leader_29 dX1_leader_30 (by decide) (by omega) (by omega) (fun c_30 => ?_) (fun c_30 => ?_)
    · refine lv_iinc (v := nI (i + 1)) (lv' := [(4, .int (nI (i + 1))), (0, .ref (b 0)), (1, .int (nI (x))), (2, .int (nI (y))), (3, .int (nI (ld_ v x y i)))]) hx hb dX1_leader_36 hl (k := 4) rfl (nI_add _ _) (by decide) rfl (fun ls hl => ?_)
      refine lv_goto (tgt := 5) hx hb dX1_leader_39 (by decide) ?_
      exact ih_5 (i + 1) ls (by omega) (lv_cast (k := [(0, .ref (b 0)), (1, .int (nI (x))), (2, .int (nI (y))), (3, .int (nI (ld_ v x y i))), (4, .int (nI (i + 1)))]) (lv_sub hl [1, 2, 3, 4, 0] rfl) (lc_cons rfl (lc_cons rfl (lc_cons rfl (lc_cons (congrArg (fun z : Nat => ((3 : Nat), Value.int (nI z))) (show (ld_ v x y i : Nat) = ld_ v x y (i + 1) from by first | exact (if_pos c_30).symm | exact (if_neg (Nat.not_lt.mpr c_30)).symm)) (lc_cons (congrArg (fun z : Nat => ((4 : Nat), Value.int (nI z))) (show (i + 1 : Nat) = (i + 1) from by first | rfl | omega)) rfl)))))) (by omega)
    · refine lv_iload hx hb dX1_leader_33 (lv_at hl 4 rfl) ?_
      refine lv_istore_n (lv' := [(3, .int (nI (i))), (0, .ref (b 0)), (1, .int (nI (x))), (2, .int (nI (y))), (4, .int (nI (i)))]) hx hb dX1_leader_35 rfl hl (by decide) rfl (fun ls hl => ?_)
      refine lv_iinc (v := nI (i + 1)) (lv' := [(4, .int (nI (i + 1))), (3, .int (nI (i))), (0, .ref (b 0)), (1, .int (nI (x))), (2, .int (nI (y)))]) hx hb dX1_leader_36 hl (k := 4) rfl (nI_add _ _) (by decide) rfl (fun ls hl => ?_)
      refine lv_goto (tgt := 5) hx hb dX1_leader_39 (by decide) ?_
      exact ih_5 (i + 1) ls (by omega) (lv_cast (k := [(0, .ref (b 0)), (1, .int (nI (x))), (2, .int (nI (y))), (3, .int (nI (i))), (4, .int (nI (i + 1)))]) (lv_sub hl [2, 3, 4, 1, 0] rfl) (lc_cons rfl (lc_cons rfl (lc_cons rfl (lc_cons (congrArg (fun z : Nat => ((3 : Nat), Value.int (nI z))) (show (i : Nat) = ld_ v x y (i + 1) from by first | exact (if_pos c_30).symm | exact (if_neg (Nat.not_lt.mpr c_30)).symm)) (lc_cons (congrArg (fun z : Nat => ((4 : Nat), Value.int (nI z))) (show (i + 1 : Nat) = (i + 1) from by first | rfl | omega)) rfl)))))) (by omega)
set_option maxHeartbeats 4000000 in
set_option maxRecDepth 100000 in
theorem c_X1_here (l : Launch) (D : va_G) (κ : Nat → ClassId) (b : Nat → Nat) (u : Nat) (v : VS) (hv : ok_v v) (c_ : Nat) (hc : c_ < vs_c v) : Rd l yX1_here cX1_here 2 (some .long) 3 70 (Pw D (kt_ κ) (mw κ b u v) [.ref (b 0), .int (nI (c_))]) (.long (lN (wt_ v c_ (hh_ v) (tt_ v)))) := by
  refine rd_intro (own := RX1) (by decide +kernel) rfl (Nat.le_of_ble_eq_true rfl) (fun p e s m args below meth c pc ls hx hb hr hlk d => ret_L hx hb hr hlk d) ?_
  intro p e s m args below meth c ls Qq hx hb hml hown hts hK hP hend hl
  have hl : lv_has ls 2 [(0, .ref (b 0)), (1, .int (nI (c_)))] := hl
  obtain ⟨hv1, hv2, hv3, hv4, hv5, hv6⟩ := id hv
  have hq1 := hh_le v
  have hq2 := hh_tt v
  refine lv_aload_n hx hb dX1_here_0 rfl (lv_at hl 0 rfl) ?_
  refine lv_iload_n hx hb dX1_here_1 rfl (lv_at hl 1 rfl) ?_
  refine lv_aload_n hx hb dX1_here_2 rfl (lv_at hl 0 rfl) ?_
  refine rd_V (rest := [.int (nI (c_)), .ref (b 0)]) ⟨hx, hb, hml, hown, hts⟩ (c_X1_headsNow l D κ b u v hv) g_X1_69 n_X1_headsNow ⟨Nat.le_of_ble_eq_true rfl, Nat.le_of_ble_eq_true rfl⟩ hK hP rfl rfl rfl hl.1 rfl (Nat.le_of_ble_eq_true rfl) dX1_here_3 ⟨Nat.zero_le _, Nat.zero_le _⟩ ?_
  refine lv_aload_n hx hb dX1_here_6 rfl (lv_at hl 0 rfl) ?_
  refine va_get (D := D) (ci := 1) (v := .int (nI (vs_t v))) (C := RX1) (T := TX1) (N := 8) hx hb hts i_X1 hown hK hP 0 rfl rfl 3 (by decide) (hts _ q_f_X1_33) (fun _ h9 => h9) rfl dX1_here_7 ?_
  refine lv_aload_n hx hb dX1_here_10 rfl (lv_at hl 0 rfl) ?_
  refine rd_V (rest := [.int (nI (vs_t v)), .int (nI (hh_ v)), .int (nI (c_)), .ref (b 0)]) ⟨hx, hb, hml, hown, hts⟩ (c_X1_headsNow l D κ b u v hv) g_X1_69 n_X1_headsNow ⟨Nat.le_of_ble_eq_true rfl, Nat.le_of_ble_eq_true rfl⟩ hK hP rfl rfl rfl hl.1 rfl (Nat.le_of_ble_eq_true rfl) dX1_here_11 ⟨Nat.zero_le _, Nat.zero_le _⟩ ?_
  refine nv_isub (r := (vs_t v) - (hh_ v)) hx hb dX1_here_14 (by omega) ?_
  refine nv_topi (congrArg nI (show ((vs_t v) - (hh_ v) : Nat) = tt_ v from by rfl)) ?_
  refine rd_V (rest := []) ⟨hx, hb, hml, hown, hts⟩ (c_X1_weight l D κ b u v hv (c_) (hh_ v) (tt_ v) (by omega) (by omega) (by omega)) g_X1_55 n_X1_weight ⟨Nat.le_of_ble_eq_true rfl, Nat.le_of_ble_eq_true rfl⟩ hK hP rfl rfl rfl hl.1 rfl (Nat.le_of_ble_eq_true rfl) dX1_here_15 ⟨Nat.zero_le _, Nat.zero_le _⟩ ?_
  exact hend _ _ dX1_here_18
set_option maxHeartbeats 4000000 in
set_option maxRecDepth 100000 in
theorem c_X1_all (l : Launch) (D : va_G) (κ : Nat → ClassId) (b : Nat → Nat) (u : Nat) (v : VS) (hv : ok_v v) : Rd l yX1_all cX1_all 1 (some .long) 4 95 (Pw D (kt_ κ) (mw κ b u v) [.ref (b 0)]) (.long (lN (wl_ v (hh_ v) (tt_ v)))) := by
  refine rd_intro (own := RX1) (by decide +kernel) rfl (Nat.le_of_ble_eq_true rfl) (fun p e s m args below meth c pc ls hx hb hr hlk d => ret_L hx hb hr hlk d) ?_
  intro p e s m args below meth c ls Qq hx hb hml hown hts hK hP hend hl
  have hl : lv_has ls 1 [(0, .ref (b 0))] := hl
  obtain ⟨hv1, hv2, hv3, hv4, hv5, hv6⟩ := id hv
  have hq1 := hh_le v
  have hq2 := hh_tt v
  refine lv_aload_n hx hb dX1_all_0 rfl (lv_at hl 0 rfl) ?_
  refine lv_aload_n hx hb dX1_all_1 rfl (lv_at hl 0 rfl) ?_
  refine rd_V (rest := [.ref (b 0)]) ⟨hx, hb, hml, hown, hts⟩ (c_X1_headsNow l D κ b u v hv) g_X1_69 n_X1_headsNow ⟨Nat.le_of_ble_eq_true rfl, Nat.le_of_ble_eq_true rfl⟩ hK hP rfl rfl rfl hl.1 rfl (Nat.le_of_ble_eq_true rfl) dX1_all_2 ⟨Nat.zero_le _, Nat.zero_le _⟩ ?_
  refine lv_aload_n hx hb dX1_all_5 rfl (lv_at hl 0 rfl) ?_
  refine va_get (D := D) (ci := 1) (v := .int (nI (vs_t v))) (C := RX1) (T := TX1) (N := 8) hx hb hts i_X1 hown hK hP 0 rfl rfl 3 (by decide) (hts _ q_f_X1_33) (fun _ h9 => h9) rfl dX1_all_6 ?_
  refine lv_aload_n hx hb dX1_all_9 rfl (lv_at hl 0 rfl) ?_
  refine rd_V (rest := [.int (nI (vs_t v)), .int (nI (hh_ v)), .ref (b 0)]) ⟨hx, hb, hml, hown, hts⟩ (c_X1_headsNow l D κ b u v hv) g_X1_69 n_X1_headsNow ⟨Nat.le_of_ble_eq_true rfl, Nat.le_of_ble_eq_true rfl⟩ hK hP rfl rfl rfl hl.1 rfl (Nat.le_of_ble_eq_true rfl) dX1_all_10 ⟨Nat.zero_le _, Nat.zero_le _⟩ ?_
  refine nv_isub (r := (vs_t v) - (hh_ v)) hx hb dX1_all_13 (by omega) ?_
  refine nv_topi (congrArg nI (show ((vs_t v) - (hh_ v) : Nat) = tt_ v from by rfl)) ?_
  refine rd_V (rest := []) ⟨hx, hb, hml, hown, hts⟩ (c_X1_whole l D κ b u v hv (hh_ v) (tt_ v) (by omega) (by omega)) g_X1_58 n_X1_whole ⟨Nat.le_of_ble_eq_true rfl, Nat.le_of_ble_eq_true rfl⟩ hK hP rfl rfl rfl hl.1 rfl (Nat.le_of_ble_eq_true rfl) dX1_all_14 ⟨Nat.zero_le _, Nat.zero_le _⟩ ?_
  exact hend _ _ dX1_all_17
set_option maxHeartbeats 4000000 in
set_option maxRecDepth 100000 in
theorem c_X1_canBe (l : Launch) (D : va_G) (κ : Nat → ClassId) (b : Nat → Nat) (u : Nat) (v : VS) (hv : ok_v v) (h_ : Bool) : Rd l yX1_canBe cX1_canBe 2 (some .boolean) 5 118 (Pw D (kt_ κ) (mw κ b u v) [.ref (b 0), .int (bI (h_))]) (.int (bI (decide (0 < ch_ v h_ (hh_ v) (tt_ v))))) := by
  refine rd_intro (own := RX1) (by decide +kernel) rfl (Nat.le_of_ble_eq_true rfl) (fun p e s m args below meth c pc ls hx hb hr hlk d => ret_Z hx hb hr hlk d) ?_
  intro p e s m args below meth c ls Qq hx hb hml hown hts hK hP hend hl
  have hl : lv_has ls 2 [(0, .ref (b 0)), (1, .int (bI (h_)))] := hl
  obtain ⟨hv1, hv2, hv3, hv4, hv5, hv6⟩ := id hv
  have hq1 := hh_le v
  have hq2 := hh_tt v
  have hb9 := ch_b hv h_ (a := hh_ v) (b := tt_ v) (by omega)
  refine lv_aload_n hx hb dX1_canBe_0 rfl (lv_at hl 0 rfl) ?_
  refine lv_iload_n hx hb dX1_canBe_1 rfl (lv_at hl 1 rfl) ?_
  refine lv_aload_n hx hb dX1_canBe_2 rfl (lv_at hl 0 rfl) ?_
  refine rd_V (rest := [.int (bI (h_)), .ref (b 0)]) ⟨hx, hb, hml, hown, hts⟩ (c_X1_headsNow l D κ b u v hv) g_X1_69 n_X1_headsNow ⟨Nat.le_of_ble_eq_true rfl, Nat.le_of_ble_eq_true rfl⟩ hK hP rfl rfl rfl hl.1 rfl (Nat.le_of_ble_eq_true rfl) dX1_canBe_3 ⟨Nat.zero_le _, Nat.zero_le _⟩ ?_
  refine lv_aload_n hx hb dX1_canBe_6 rfl (lv_at hl 0 rfl) ?_
  refine va_get (D := D) (ci := 1) (v := .int (nI (vs_t v))) (C := RX1) (T := TX1) (N := 8) hx hb hts i_X1 hown hK hP 0 rfl rfl 3 (by decide) (hts _ q_f_X1_33) (fun _ h9 => h9) rfl dX1_canBe_7 ?_
  refine lv_aload_n hx hb dX1_canBe_10 rfl (lv_at hl 0 rfl) ?_
  refine rd_V (rest := [.int (nI (vs_t v)), .int (nI (hh_ v)), .int (bI (h_)), .ref (b 0)]) ⟨hx, hb, hml, hown, hts⟩ (c_X1_headsNow l D κ b u v hv) g_X1_69 n_X1_headsNow ⟨Nat.le_of_ble_eq_true rfl, Nat.le_of_ble_eq_true rfl⟩ hK hP rfl rfl rfl hl.1 rfl (Nat.le_of_ble_eq_true rfl) dX1_canBe_11 ⟨Nat.zero_le _, Nat.zero_le _⟩ ?_
  refine nv_isub (r := (vs_t v) - (hh_ v)) hx hb dX1_canBe_14 (by omega) ?_
  refine nv_topi (congrArg nI (show ((vs_t v) - (hh_ v) : Nat) = tt_ v from by rfl)) ?_
  refine rd_V (rest := []) ⟨hx, hb, hml, hown, hts⟩ (c_X1_chance l D κ b u v hv (h_) (hh_ v) (tt_ v) (by omega) (by omega)) g_X1_65 n_X1_chance ⟨Nat.le_of_ble_eq_true rfl, Nat.le_of_ble_eq_true rfl⟩ hK hP rfl rfl rfl hl.1 rfl (Nat.le_of_ble_eq_true rfl) dX1_canBe_15 ⟨Nat.zero_le _, Nat.zero_le _⟩ ?_
  refine lv_lconst (v := lN (0)) hx hb dX1_canBe_18 (by decide) ?_
  refine nv_lc_le (tgt := 27) hx hb dX1_canBe_19 dX1_canBe_20 (by decide) (by omega) (by omega) (fun c_20 => ?_) (fun c_20 => ?_)
  · refine lv_iconst (v := nI (0)) hx hb dX1_canBe_27 (by decide) ?_
    refine nv_topi (show (nI (0) : Int32) = bI (decide (0 < ch_ v h_ (hh_ v) (tt_ v))) from by first | (rw [decide_eq_true c_20]; rfl) | (rw [decide_eq_false (by omega)]; rfl)) ?_
    exact hend _ _ dX1_canBe_28
  · refine lv_iconst (v := nI (1)) hx hb dX1_canBe_23 (by decide) ?_
    refine lv_goto (tgt := 28) hx hb dX1_canBe_24 (by decide) ?_
    refine nv_topi (show (nI (1) : Int32) = bI (decide (0 < ch_ v h_ (hh_ v) (tt_ v))) from by first | (rw [decide_eq_true c_20]; rfl) | (rw [decide_eq_false (by omega)]; rfl)) ?_
    exact hend _ _ dX1_canBe_28
set_option maxHeartbeats 4000000 in
set_option maxRecDepth 100000 in
theorem c_X1_without (l : Launch) (f : Nat → Bool) (n : Nat) (k : Nat) (hk : k < n) (hn : n ≤ 12) : Rd l yX1_without cX1_without 2 (some .int) 0 0 (Pn [.int (nI (rn_ f n)), .int (nI (k))]) (.int (nI (rn_ (sh_ f k (n - 1)) (n - 1)))) := by
  refine rd_introS (own := RX1) (by decide +kernel) rfl (Nat.le_of_ble_eq_true rfl) (fun p e s m args below meth c pc ls hx hb hr hlk d => ret_I hx hb hr hlk d) ?_
  intro p e s m args below meth c ls Qq hx hb hml hown hts hend hl
  have hl : lv_has ls 2 [(0, .int (nI (rn_ f n))), (1, .int (nI (k)))] := hl
  refine lv_iload_n hx hb dX1_without_0 rfl (lv_at hl 0 rfl) ?_
  refine lv_iconst (v := nI (1)) hx hb dX1_without_1 (by decide) ?_
  refine lv_iload_n hx hb dX1_without_2 rfl (lv_at hl 1 rfl) ?_
  refine lv_ishl hx hb dX1_without_3 ?_
  refine lv_iconst (v := nI (1)) hx hb dX1_without_4 (by decide) ?_
  refine lv_isub hx hb dX1_without_5 ?_
  refine lv_iand hx hb dX1_without_6 ?_
  refine lv_iload_n hx hb dX1_without_7 rfl (lv_at hl 0 rfl) ?_
  refine lv_iload_n hx hb dX1_without_8 rfl (lv_at hl 1 rfl) ?_
  refine lv_iconst (v := nI (1)) hx hb dX1_without_9 (by decide) ?_
  refine nv_iadd hx hb dX1_without_10 rfl ?_
  refine lv_ishr hx hb dX1_without_11 ?_
  refine lv_iload_n hx hb dX1_without_12 rfl (lv_at hl 1 rfl) ?_
  refine lv_ishl hx hb dX1_without_13 ?_
  refine lv_ior hx hb dX1_without_14 ?_
  refine nv_topi (show (((nI (rn_ f n)) &&& (((nI (1)) <<< ((nI (k)) &&& 31)) - (nI (1)))) ||| (((nI (rn_ f n)) >>> ((nI (k + 1)) &&& 31)) <<< ((nI (k)) &&& 31)) : Int32) = nI (rn_ (sh_ f k (n - 1)) (n - 1)) from by exact wo_eq hk hn) ?_
  exact hend _ _ dX1_without_15
set_option maxHeartbeats 4000000 in
set_option maxRecDepth 100000 in
theorem c_X1_isUp (l : Launch) (D : va_G) (κ : Nat → ClassId) (b : Nat → Nat) (u : Nat) (v : VS) (hv : ok_v v) (t_ : Nat) (ht : t_ < vs_t v) : Rd l yX1_isUp cX1_isUp 2 (some .boolean) 0 0 (Pw D (kt_ κ) (mw κ b u v) [.ref (b 0), .int (nI (t_))]) (.int (bI (vs_th v t_))) := by
  refine rd_intro (own := RX1) (by decide +kernel) rfl (Nat.le_of_ble_eq_true rfl) (fun p e s m args below meth c pc ls hx hb hr hlk d => ret_Z hx hb hr hlk d) ?_
  intro p e s m args below meth c ls Qq hx hb hml hown hts hK hP hend hl
  have hl : lv_has ls 2 [(0, .ref (b 0)), (1, .int (nI (t_)))] := hl
  obtain ⟨hv1, hv2, hv3, hv4, hv5, hv6⟩ := id hv
  refine lv_aload_n hx hb dX1_isUp_0 rfl (lv_at hl 0 rfl) ?_
  refine va_get (D := D) (ci := 1) (v := .int (nI (rw_ v))) (C := RX1) (T := TX1) (N := 8) hx hb hts i_X1 hown hK hP 0 rfl rfl 4 (by decide) (hts _ q_f_X1_36) (fun _ h9 => h9) rfl dX1_isUp_1 ?_
  refine lv_iload_n hx hb dX1_isUp_4 rfl (lv_at hl 1 rfl) ?_
  refine lv_ishr hx hb dX1_isUp_5 ?_
  refine lv_iconst (v := nI (1)) hx hb dX1_isUp_6 (by decide) ?_
  refine lv_iand hx hb dX1_isUp_7 ?_
  refine nv_topi (show (((nI (rw_ v)) >>> ((nI (t_)) &&& 31)) &&& (nI (1)) : Int32) = nI (if vs_th v t_ then 1 else 0) from by exact bit_at ht (by omega)) ?_
  refine lv_iconst (v := nI (1)) hx hb dX1_isUp_8 (by decide) ?_
  refine nv_icmp_ne (tgt := 16) hx hb dX1_isUp_9 (by decide) (by split <;> omega) (by omega) (fun c_9 => ?_) (fun c_9 => ?_)
  · refine lv_iconst (v := nI (0)) hx hb dX1_isUp_16 (by decide) ?_
    refine nv_topi (show (nI (0) : Int32) = bI (vs_th v t_) from by first | exact up_t c_9 | exact up_f c_9) ?_
    exact hend _ _ dX1_isUp_17
  · refine lv_iconst (v := nI (1)) hx hb dX1_isUp_12 (by decide) ?_
    refine lv_goto (tgt := 17) hx hb dX1_isUp_13 (by decide) ?_
    refine nv_topi (show (nI (1) : Int32) = bI (vs_th v t_) from by first | exact up_t c_9 | exact up_f c_9) ?_
    exact hend _ _ dX1_isUp_17
set_option maxHeartbeats 4000000 in
set_option maxRecDepth 100000 in
theorem c_X1_pair (l : Launch) (D : va_G) (κ : Nat → ClassId) (b : Nat → Nat) (u : Nat) (v : VS) (hv : ok_v v) (s_ : Nat) (c_ : Nat) (hs : s_ < vs_n v) (hc : c_ < vs_c v) : Rd l yX1_pair cX1_pair 3 (some .long) 2 47 (Pw D (kt_ κ) (mw κ b u v) [.ref (b 0), .int (nI (s_)), .int (nI (c_))]) (.long (lN (pr_ v s_ c_ (hh_ v) (tt_ v)))) := by
  refine rd_intro (own := RX1) (by decide +kernel) rfl (Nat.le_of_ble_eq_true rfl) (fun p e s m args below meth c pc ls hx hb hr hlk d => ret_L hx hb hr hlk d) ?_
  intro p e s m args below meth c ls Qq hx hb hml hown hts hK hP hend hl
  have hl : lv_has ls 3 [(0, .ref (b 0)), (1, .int (nI (s_))), (2, .int (nI (c_)))] := hl
  obtain ⟨hv1, hv2, hv3, hv4, hv5, hv6⟩ := id hv
  have hq1 := hh_le v
  have hq2 := hh_tt v
  have hw9 := sw_le hv s_ c_
  refine lv_aload_n hx hb dX1_pair_0 rfl (lv_at hl 0 rfl) ?_
  refine va_get (D := D) (ci := 1) (v := .ref (b 2)) (C := RX1) (T := TX1) (N := 8) hx hb hts i_X1 hown hK hP 0 rfl rfl 6 (by decide) (hts _ q_f_X1_13) (fun _ h9 => h9) rfl dX1_pair_1 ?_
  refine lv_iload_n hx hb dX1_pair_4 rfl (lv_at hl 1 rfl) ?_
  refine nv_iald hx hb hK hP 2 0 (n := 4) (v := nI (vs_so v s_)) rfl rfl (by omega) (by decide) rfl dX1_pair_5 ?_
  refine lv_aload_n hx hb dX1_pair_6 rfl (lv_at hl 0 rfl) ?_
  refine va_get (D := D) (ci := 1) (v := .ref (b 3)) (C := RX1) (T := TX1) (N := 8) hx hb hts i_X1 hown hK hP 0 rfl rfl 7 (by decide) (hts _ q_f_X1_16) (fun _ h9 => h9) rfl dX1_pair_7 ?_
  refine lv_iconst (v := nI (4)) hx hb dX1_pair_10 (by decide) ?_
  refine lv_iload_n hx hb dX1_pair_11 rfl (lv_at hl 2 rfl) ?_
  refine nv_imul hx hb dX1_pair_12 rfl ?_
  refine lv_iload_n hx hb dX1_pair_13 rfl (lv_at hl 1 rfl) ?_
  refine nv_iadd hx hb dX1_pair_14 rfl ?_
  refine nv_iald hx hb hK hP 3 0 (n := 32) (v := nI (ms_ v ((4 * c_) + s_))) rfl rfl (by omega) (by decide) rfl dX1_pair_15 ?_
  refine nv_topi (congrArg nI (show (ms_ v ((4 * c_) + s_) : Nat) = vs_sh v s_ c_ from by exact ms_at hs hc (by omega))) ?_
  refine nv_imul hx hb dX1_pair_16 rfl ?_
  refine nv_i2l hx hb dX1_pair_17 (by unfold sw_ at hw9; omega) ?_
  refine lv_aload_n hx hb dX1_pair_18 rfl (lv_at hl 0 rfl) ?_
  refine lv_iload_n hx hb dX1_pair_19 rfl (lv_at hl 2 rfl) ?_
  refine lv_aload_n hx hb dX1_pair_20 rfl (lv_at hl 0 rfl) ?_
  refine rd_V (rest := [.int (nI (c_)), .ref (b 0), .long (lN ((vs_so v s_) * (vs_sh v s_ c_)))]) ⟨hx, hb, hml, hown, hts⟩ (c_X1_headsNow l D κ b u v hv) g_X1_69 n_X1_headsNow ⟨Nat.le_of_ble_eq_true rfl, Nat.le_of_ble_eq_true rfl⟩ hK hP rfl rfl rfl hl.1 rfl (Nat.le_of_ble_eq_true rfl) dX1_pair_21 ⟨Nat.zero_le _, Nat.zero_le _⟩ ?_
  refine lv_aload_n hx hb dX1_pair_24 rfl (lv_at hl 0 rfl) ?_
  refine va_get (D := D) (ci := 1) (v := .int (nI (vs_t v))) (C := RX1) (T := TX1) (N := 8) hx hb hts i_X1 hown hK hP 0 rfl rfl 3 (by decide) (hts _ q_f_X1_33) (fun _ h9 => h9) rfl dX1_pair_25 ?_
  refine lv_aload_n hx hb dX1_pair_28 rfl (lv_at hl 0 rfl) ?_
  refine rd_V (rest := [.int (nI (vs_t v)), .int (nI (hh_ v)), .int (nI (c_)), .ref (b 0), .long (lN ((vs_so v s_) * (vs_sh v s_ c_)))]) ⟨hx, hb, hml, hown, hts⟩ (c_X1_headsNow l D κ b u v hv) g_X1_69 n_X1_headsNow ⟨Nat.le_of_ble_eq_true rfl, Nat.le_of_ble_eq_true rfl⟩ hK hP rfl rfl rfl hl.1 rfl (Nat.le_of_ble_eq_true rfl) dX1_pair_29 ⟨Nat.zero_le _, Nat.zero_le _⟩ ?_
  refine nv_isub (r := (vs_t v) - (hh_ v)) hx hb dX1_pair_32 (by omega) ?_
  refine nv_topi (congrArg nI (show ((vs_t v) - (hh_ v) : Nat) = tt_ v from by rfl)) ?_
  refine rd_V (rest := [.long (lN ((vs_so v s_) * (vs_sh v s_ c_)))]) ⟨hx, hb, hml, hown, hts⟩ (c_X1_falls l D κ b u v hv (c_) (hh_ v) (tt_ v) (by omega) (by omega) (by omega)) g_X1_51 n_X1_falls ⟨Nat.le_of_ble_eq_true rfl, Nat.le_of_ble_eq_true rfl⟩ hK hP rfl rfl rfl hl.1 rfl (Nat.le_of_ble_eq_true rfl) dX1_pair_33 ⟨Nat.zero_le _, Nat.zero_le _⟩ ?_
  refine nv_lmul hx hb dX1_pair_36 rfl ?_
  refine nv_topl (congrArg lN (show (((vs_so v s_) * (vs_sh v s_ c_)) * (lk_ v c_ (hh_ v) (tt_ v)) : Nat) = pr_ v s_ c_ (hh_ v) (tt_ v) from by rfl)) ?_
  exact hend _ _ dX1_pair_37
set_option maxHeartbeats 4000000 in
set_option maxRecDepth 100000 in
theorem c_X1_schoolHere (l : Launch) (D : va_G) (κ : Nat → ClassId) (b : Nat → Nat) (u : Nat) (v : VS) (hv : ok_v v) (s_ : Nat) (hs : s_ < vs_n v) : Rd l yX1_schoolHere cX1_schoolHere 5 (some .long) 3 69 (Pw D (kt_ κ) (mw κ b u v) [.ref (b 0), .int (nI (s_))]) (.long (lN (sc_ v s_ (hh_ v) (tt_ v)))) := by
  refine rd_intro (own := RX1) (by decide +kernel) rfl (Nat.le_of_ble_eq_true rfl) (fun p e s m args below meth c pc ls hx hb hr hlk d => ret_L hx hb hr hlk d) ?_
  intro p e s m args below meth c ls Qq hx hb hml hown hts hK hP hend hl
  have hl : lv_has ls 5 [(0, .ref (b 0)), (1, .int (nI (s_)))] := hl
  obtain ⟨hv1, hv2, hv3, hv4, hv5, hv6⟩ := id hv
  refine lv_lconst (v := lN (0)) hx hb dX1_schoolHere_0 (by decide) ?_
  refine lv_lstore_n (lv' := [(2, .long (lN (0))), (0, .ref (b 0)), (1, .int (nI (s_)))]) hx hb dX1_schoolHere_1 rfl hl (by decide) rfl (fun ls hl => ?_)
  refine lv_iconst (v := nI (0)) hx hb dX1_schoolHere_2 (by decide) ?_
  refine lv_istore (lv' := [(4, .int (nI (0))), (2, .long (lN (0))), (0, .ref (b 0)), (1, .int (nI (s_)))]) hx hb dX1_schoolHere_3 hl (by decide) rfl (fun ls hl => ?_)
  suffices hloop_5 : ∀ (n_5 i : Nat) (ls : Array Slot), i + n_5 = vs_c v → lv_has ls 5 [(0, .ref (b 0)), (1, .int (nI (s_))), (2, .long (lN (sm_ (fun z => pr_ v s_ z (hh_ v) (tt_ v)) i))), (4, .int (nI (i)))] → W p l e (rm_ 3 69) s m args below meth c s.heap [] 0 0 Qq (F0 m 5 ls []) from hloop_5 (vs_c v - 0) (0) ls (by omega) (lv_cast (k := [(0, .ref (b 0)), (1, .int (nI (s_))), (2, .long (lN (0))), (4, .int (nI (0)))]) (lv_sub hl [2, 3, 1, 0] rfl) (lc_cons rfl (lc_cons rfl (lc_cons (congrArg (fun z : Nat => ((2 : Nat), Value.long (lN z))) (show (0 : Nat) = sm_ (fun z => pr_ v s_ z (hh_ v) (tt_ v)) 0 from by first | rfl | omega)) (lc_cons rfl rfl)))))
  intro n_5
  induction n_5 with
  | zero =>
    intro i ls hin_5 hl
    have hi_5 : i = vs_c v := by omega
    refine lv_iload hx hb dX1_schoolHere_5 (lv_at hl 3 rfl) ?_
    refine lv_aload_n hx hb dX1_schoolHere_7 rfl (lv_at hl 0 rfl) ?_
    refine va_get (D := D) (ci := 1) (v := .int (nI (vs_c v))) (C := RX1) (T := TX1) (N := 8) hx hb hts i_X1 hown hK hP 0 rfl rfl 1 (by decide) (hts _ q_f_X1_23) (fun _ h9 => h9) rfl dX1_schoolHere_8 ?_
    refine nv_icmp_ge (tgt := 30) hx hb dX1_schoolHere_11 (by decide) (by omega) (by omega) (fun c_11 => ?_) (fun z => absurd z (by omega))
    refine lv_lload_n hx hb dX1_schoolHere_30 rfl (lv_at hl 2 rfl) ?_
    refine nv_topl (congrArg lN (show (sm_ (fun z => pr_ v s_ z (hh_ v) (tt_ v)) i : Nat) = sc_ v s_ (hh_ v) (tt_ v) from by rw [hi_5]; rfl)) ?_
    exact hend _ _ dX1_schoolHere_31
  | succ n_5 ih_5 =>
    intro i ls hin_5 hl
    refine lv_iload hx hb dX1_schoolHere_5 (lv_at hl 3 rfl) ?_
    refine lv_aload_n hx hb dX1_schoolHere_7 rfl (lv_at hl 0 rfl) ?_
    refine va_get (D := D) (ci := 1) (v := .int (nI (vs_c v))) (C := RX1) (T := TX1) (N := 8) hx hb hts i_X1 hown hK hP 0 rfl rfl 1 (by decide) (hts _ q_f_X1_23) (fun _ h9 => h9) rfl dX1_schoolHere_8 ?_
    refine nv_icmp_ge (tgt := 30) hx hb dX1_schoolHere_11 (by decide) (by omega) (by omega) (fun z => absurd z (by omega)) (fun c_11 => ?_)
    refine lv_lload_n hx hb dX1_schoolHere_14 rfl (lv_at hl 2 rfl) ?_
    refine lv_aload_n hx hb dX1_schoolHere_15 rfl (lv_at hl 0 rfl) ?_
    refine lv_iload_n hx hb dX1_schoolHere_16 rfl (lv_at hl 1 rfl) ?_
    refine lv_iload hx hb dX1_schoolHere_17 (lv_at hl 3 rfl) ?_
    refine rd_V (rest := [.long (lN (sm_ (fun z => pr_ v s_ z (hh_ v) (tt_ v)) i))]) ⟨hx, hb, hml, hown, hts⟩ (c_X1_pair l D κ b u v hv (s_) (i) (by omega) (by omega)) g_X1_103 n_X1_pair ⟨Nat.le_of_ble_eq_true rfl, Nat.le_of_ble_eq_true rfl⟩ hK hP rfl rfl rfl hl.1 rfl (Nat.le_of_ble_eq_true rfl) dX1_schoolHere_19 ⟨Nat.zero_le _, Nat.zero_le _⟩ ?_
    refine nv_ladd hx hb dX1_schoolHere_22 rfl ?_
    refine lv_lstore_n (lv' := [(2, .long (lN ((sm_ (fun z => pr_ v s_ z (hh_ v) (tt_ v)) i) + (pr_ v s_ i (hh_ v) (tt_ v))))), (0, .ref (b 0)), (1, .int (nI (s_))), (4, .int (nI (i)))]) hx hb dX1_schoolHere_23 rfl hl (by decide) rfl (fun ls hl => ?_)
    refine lv_iinc (v := nI (i + 1)) (lv' := [(4, .int (nI (i + 1))), (2, .long (lN ((sm_ (fun z => pr_ v s_ z (hh_ v) (tt_ v)) i) + (pr_ v s_ i (hh_ v) (tt_ v))))), (0, .ref (b 0)), (1, .int (nI (s_)))]) hx hb dX1_schoolHere_24 hl (k := 3) rfl (nI_add _ _) (by decide) rfl (fun ls hl => ?_)
    refine lv_goto (tgt := 5) hx hb dX1_schoolHere_27 (by decide) ?_
    exact ih_5 (i + 1) ls (by omega) (lv_cast (k := [(0, .ref (b 0)), (1, .int (nI (s_))), (2, .long (lN ((sm_ (fun z => pr_ v s_ z (hh_ v) (tt_ v)) i) + (pr_ v s_ i (hh_ v) (tt_ v))))), (4, .int (nI (i + 1)))]) (lv_sub hl [2, 3, 1, 0] rfl) (lc_cons rfl (lc_cons rfl (lc_cons (congrArg (fun z : Nat => ((2 : Nat), Value.long (lN z))) (show ((sm_ (fun z => pr_ v s_ z (hh_ v) (tt_ v)) i) + (pr_ v s_ i (hh_ v) (tt_ v)) : Nat) = sm_ (fun z => pr_ v s_ z (hh_ v) (tt_ v)) (i + 1) from by first | rfl | omega)) (lc_cons (congrArg (fun z : Nat => ((4 : Nat), Value.int (nI z))) (show (i + 1 : Nat) = (i + 1) from by first | rfl | omega)) rfl)))))
set_option maxHeartbeats 4000000 in
set_option maxRecDepth 100000 in
theorem c_X1_gone (l : Launch) (D : va_G) (κ : Nat → ClassId) (b : Nat → Nat) (u : Nat) (v : VS) (hv : ok_v v) : Rd l yX1_gone cX1_gone 3 (some .int) 4 91 (Pw D (kt_ κ) (mw κ b u v) [.ref (b 0)]) (.int (nI (go_ v))) := by
  refine rd_intro (own := RX1) (by decide +kernel) rfl (Nat.le_of_ble_eq_true rfl) (fun p e s m args below meth c pc ls hx hb hr hlk d => ret_I hx hb hr hlk d) ?_
  intro p e s m args below meth c ls Qq hx hb hml hown hts hK hP hend hl
  have hl : lv_has ls 3 [(0, .ref (b 0))] := hl
  obtain ⟨hv1, hv2, hv3, hv4, hv5, hv6⟩ := id hv
  have hq1 := hh_le v
  have hq2 := hh_tt v
  refine lv_iconst (v := nI (0)) hx hb dX1_gone_0 (by decide) ?_
  refine lv_istore_n (lv' := [(1, .int (nI (0))), (0, .ref (b 0))]) hx hb dX1_gone_1 rfl hl (by decide) rfl (fun ls hl => ?_)
  refine lv_iconst (v := nI (0)) hx hb dX1_gone_2 (by decide) ?_
  refine lv_istore_n (lv' := [(2, .int (nI (0))), (1, .int (nI (0))), (0, .ref (b 0))]) hx hb dX1_gone_3 rfl hl (by decide) rfl (fun ls hl => ?_)
  suffices hloop_4 : ∀ (n_4 i : Nat) (ls : Array Slot), i + n_4 = vs_c v → lv_has ls 3 [(0, .ref (b 0)), (1, .int (nI (sm_ (gof_ v) i))), (2, .int (nI (i)))] → W p l e (rm_ 4 91) s m args below meth c s.heap [] 0 0 Qq (F0 m 4 ls []) from hloop_4 (vs_c v - 0) (0) ls (by omega) (lv_cast (k := [(0, .ref (b 0)), (1, .int (nI (0))), (2, .int (nI (0)))]) (lv_sub hl [2, 1, 0] rfl) (lc_cons rfl (lc_cons (congrArg (fun z : Nat => ((1 : Nat), Value.int (nI z))) (show (0 : Nat) = sm_ (gof_ v) 0 from by first | rfl | omega)) (lc_cons rfl rfl))))
  intro n_4
  induction n_4 with
  | zero =>
    intro i ls hin_4 hl
    have hi_4 : i = vs_c v := by omega
    have hb1 := wt_b hv i (a := hh_ v) (b := tt_ v) (by omega)
    refine lv_iload_n hx hb dX1_gone_4 rfl (lv_at hl 2 rfl) ?_
    refine lv_aload_n hx hb dX1_gone_5 rfl (lv_at hl 0 rfl) ?_
    refine va_get (D := D) (ci := 1) (v := .int (nI (vs_c v))) (C := RX1) (T := TX1) (N := 8) hx hb hts i_X1 hown hK hP 0 rfl rfl 1 (by decide) (hts _ q_f_X1_23) (fun _ h9 => h9) rfl dX1_gone_6 ?_
    refine nv_icmp_ge (tgt := 36) hx hb dX1_gone_9 (by decide) (by omega) (by omega) (fun c_9 => ?_) (fun z => absurd z (by omega))
    refine lv_iload_n hx hb dX1_gone_36 rfl (lv_at hl 1 rfl) ?_
    refine nv_topi (congrArg nI (show (sm_ (gof_ v) i : Nat) = go_ v from by rw [hi_4]; rfl)) ?_
    exact hend _ _ dX1_gone_37
  | succ n_4 ih_4 =>
    intro i ls hin_4 hl
    have hb1 := wt_b hv i (a := hh_ v) (b := tt_ v) (by omega)
    refine lv_iload_n hx hb dX1_gone_4 rfl (lv_at hl 2 rfl) ?_
    refine lv_aload_n hx hb dX1_gone_5 rfl (lv_at hl 0 rfl) ?_
    refine va_get (D := D) (ci := 1) (v := .int (nI (vs_c v))) (C := RX1) (T := TX1) (N := 8) hx hb hts i_X1 hown hK hP 0 rfl rfl 1 (by decide) (hts _ q_f_X1_23) (fun _ h9 => h9) rfl dX1_gone_6 ?_
    refine nv_icmp_ge (tgt := 36) hx hb dX1_gone_9 (by decide) (by omega) (by omega) (fun z => absurd z (by omega)) (fun c_9 => ?_)
    refine lv_iload_n hx hb dX1_gone_12 rfl (lv_at hl 1 rfl) ?_
    refine lv_aload_n hx hb dX1_gone_13 rfl (lv_at hl 0 rfl) ?_
    refine lv_iload_n hx hb dX1_gone_14 rfl (lv_at hl 2 rfl) ?_
    refine rd_V (rest := [.int (nI (sm_ (gof_ v) i))]) ⟨hx, hb, hml, hown, hts⟩ (c_X1_here l D κ b u v hv (i) (by omega)) g_X1_106 n_X1_here ⟨Nat.le_of_ble_eq_true rfl, Nat.le_of_ble_eq_true rfl⟩ hK hP rfl rfl rfl hl.1 rfl (Nat.le_of_ble_eq_true rfl) dX1_gone_15 ⟨Nat.zero_le _, Nat.zero_le _⟩ ?_
    refine lv_lconst (v := lN (0)) hx hb dX1_gone_18 (by decide) ?_
    refine nv_lc_ne (tgt := 27) hx hb dX1_gone_19 dX1_gone_20 (by decide) (by omega) (by omega) (fun c_20 => ?_) (fun c_20 => ?_)
    · refine lv_iconst (v := nI (0)) hx hb dX1_gone_27 (by decide) ?_
      refine nv_topi (congrArg nI (show (0 : Nat) = gof_ v i from by simp [gof_, c_20])) ?_
      refine nv_iadd hx hb dX1_gone_28 rfl ?_
      refine lv_istore_n (lv' := [(1, .int (nI ((sm_ (gof_ v) i) + (gof_ v i)))), (0, .ref (b 0)), (2, .int (nI (i)))]) hx hb dX1_gone_29 rfl hl (by decide) rfl (fun ls hl => ?_)
      refine lv_iinc (v := nI (i + 1)) (lv' := [(2, .int (nI (i + 1))), (1, .int (nI ((sm_ (gof_ v) i) + (gof_ v i)))), (0, .ref (b 0))]) hx hb dX1_gone_30 hl (k := 2) rfl (nI_add _ _) (by decide) rfl (fun ls hl => ?_)
      refine lv_goto (tgt := 4) hx hb dX1_gone_33 (by decide) ?_
      exact ih_4 (i + 1) ls (by omega) (lv_cast (k := [(0, .ref (b 0)), (1, .int (nI ((sm_ (gof_ v) i) + (gof_ v i)))), (2, .int (nI (i + 1)))]) (lv_sub hl [2, 1, 0] rfl) (lc_cons rfl (lc_cons (congrArg (fun z : Nat => ((1 : Nat), Value.int (nI z))) (show ((sm_ (gof_ v) i) + (gof_ v i) : Nat) = sm_ (gof_ v) (i + 1) from by first | rfl | omega)) (lc_cons (congrArg (fun z : Nat => ((2 : Nat), Value.int (nI z))) (show (i + 1 : Nat) = (i + 1) from by first | rfl | omega)) rfl))))
    · refine lv_iconst (v := nI (1)) hx hb dX1_gone_23 (by decide) ?_
      refine lv_goto (tgt := 28) hx hb dX1_gone_24 (by decide) ?_
      refine nv_topi (congrArg nI (show (1 : Nat) = gof_ v i from by simp [gof_, c_20])) ?_
      refine nv_iadd hx hb dX1_gone_28 rfl ?_
      refine lv_istore_n (lv' := [(1, .int (nI ((sm_ (gof_ v) i) + (gof_ v i)))), (0, .ref (b 0)), (2, .int (nI (i)))]) hx hb dX1_gone_29 rfl hl (by decide) rfl (fun ls hl => ?_)
      refine lv_iinc (v := nI (i + 1)) (lv' := [(2, .int (nI (i + 1))), (1, .int (nI ((sm_ (gof_ v) i) + (gof_ v i)))), (0, .ref (b 0))]) hx hb dX1_gone_30 hl (k := 2) rfl (nI_add _ _) (by decide) rfl (fun ls hl => ?_)
      refine lv_goto (tgt := 4) hx hb dX1_gone_33 (by decide) ?_
      exact ih_4 (i + 1) ls (by omega) (lv_cast (k := [(0, .ref (b 0)), (1, .int (nI ((sm_ (gof_ v) i) + (gof_ v i)))), (2, .int (nI (i + 1)))]) (lv_sub hl [2, 1, 0] rfl) (lc_cons rfl (lc_cons (congrArg (fun z : Nat => ((1 : Nat), Value.int (nI z))) (show ((sm_ (gof_ v) i) + (gof_ v i) : Nat) = sm_ (gof_ v) (i + 1) from by first | rfl | omega)) (lc_cons (congrArg (fun z : Nat => ((2 : Nat), Value.int (nI z))) (show (i + 1 : Nat) = (i + 1) from by first | rfl | omega)) rfl))))
set_option maxHeartbeats 4000000 in
set_option maxRecDepth 100000 in
theorem c_X1_leads (l : Launch) (D : va_G) (κ : Nat → ClassId) (b : Nat → Nat) (u : Nat) (v : VS) (hv : ok_v v) : Rd l yX1_leads cX1_leads 1 (some .int) 4 94 (Pw D (kt_ κ) (mw κ b u v) [.ref (b 0)]) (.int (nI (ld_ v (hh_ v) (tt_ v) (vs_c v)))) := by
  refine rd_intro (own := RX1) (by decide +kernel) rfl (Nat.le_of_ble_eq_true rfl) (fun p e s m args below meth c pc ls hx hb hr hlk d => ret_I hx hb hr hlk d) ?_
  intro p e s m args below meth c ls Qq hx hb hml hown hts hK hP hend hl
  have hl : lv_has ls 1 [(0, .ref (b 0))] := hl
  obtain ⟨hv1, hv2, hv3, hv4, hv5, hv6⟩ := id hv
  have hq1 := hh_le v
  have hq2 := hh_tt v
  refine lv_aload_n hx hb dX1_leads_0 rfl (lv_at hl 0 rfl) ?_
  refine lv_aload_n hx hb dX1_leads_1 rfl (lv_at hl 0 rfl) ?_
  refine rd_V (rest := [.ref (b 0)]) ⟨hx, hb, hml, hown, hts⟩ (c_X1_headsNow l D κ b u v hv) g_X1_69 n_X1_headsNow ⟨Nat.le_of_ble_eq_true rfl, Nat.le_of_ble_eq_true rfl⟩ hK hP rfl rfl rfl hl.1 rfl (Nat.le_of_ble_eq_true rfl) dX1_leads_2 ⟨Nat.zero_le _, Nat.zero_le _⟩ ?_
  refine lv_aload_n hx hb dX1_leads_5 rfl (lv_at hl 0 rfl) ?_
  refine va_get (D := D) (ci := 1) (v := .int (nI (vs_t v))) (C := RX1) (T := TX1) (N := 8) hx hb hts i_X1 hown hK hP 0 rfl rfl 3 (by decide) (hts _ q_f_X1_33) (fun _ h9 => h9) rfl dX1_leads_6 ?_
  refine lv_aload_n hx hb dX1_leads_9 rfl (lv_at hl 0 rfl) ?_
  refine rd_V (rest := [.int (nI (vs_t v)), .int (nI (hh_ v)), .ref (b 0)]) ⟨hx, hb, hml, hown, hts⟩ (c_X1_headsNow l D κ b u v hv) g_X1_69 n_X1_headsNow ⟨Nat.le_of_ble_eq_true rfl, Nat.le_of_ble_eq_true rfl⟩ hK hP rfl rfl rfl hl.1 rfl (Nat.le_of_ble_eq_true rfl) dX1_leads_10 ⟨Nat.zero_le _, Nat.zero_le _⟩ ?_
  refine nv_isub (r := (vs_t v) - (hh_ v)) hx hb dX1_leads_13 (by omega) ?_
  refine nv_topi (congrArg nI (show ((vs_t v) - (hh_ v) : Nat) = tt_ v from by rfl)) ?_
  refine rd_V (rest := []) ⟨hx, hb, hml, hown, hts⟩ (c_X1_leader l D κ b u v hv (hh_ v) (tt_ v) (by omega)) g_X1_122 n_X1_leader ⟨Nat.le_of_ble_eq_true rfl, Nat.le_of_ble_eq_true rfl⟩ hK hP rfl rfl rfl hl.1 rfl (Nat.le_of_ble_eq_true rfl) dX1_leads_14 ⟨Nat.zero_le _, Nat.zero_le _⟩ ?_
  exact hend _ _ dX1_leads_17
set_option maxHeartbeats 4000000 in
set_option maxRecDepth 100000 in
theorem c_X1_surprise_ (l : Launch) (D : va_G) (κ : Nat → ClassId) (b : Nat → Nat) (u : Nat) (v : VS) (hv : ok_v v) (t_ : Nat) (ht : t_ < vs_t v) (hp : 0 < ch_ v (vs_th v t_) (hd_ (vs_th v) t_) (t_ - hd_ (vs_th v) t_)) : Rd l yX1_surprise_ cX1_surprise_ 3 (some .int) 6 146 (Pw D (kt_ κ) (mw κ b u v) [.ref (b 0), .int (nI (t_))]) (.int (nI (sa_ v t_))) := by
  refine rd_intro (own := RX1) (by decide +kernel) rfl (Nat.le_of_ble_eq_true rfl) (fun p e s m args below meth c pc ls hx hb hr hlk d => ret_I hx hb hr hlk d) ?_
  intro p e s m args below meth c ls Qq hx hb hml hown hts hK hP hend hl
  have hl : lv_has ls 3 [(0, .ref (b 0)), (1, .int (nI (t_)))] := hl
  obtain ⟨hv1, hv2, hv3, hv4, hv5, hv6⟩ := id hv
  have hq := hd_le (vs_th v) t_
  refine lv_aload_n hx hb dX1_surprise__0 rfl (lv_at hl 0 rfl) ?_
  refine va_get (D := D) (ci := 1) (v := .int (nI (rw_ v))) (C := RX1) (T := TX1) (N := 8) hx hb hts i_X1 hown hK hP 0 rfl rfl 4 (by decide) (hts _ q_f_X1_36) (fun _ h9 => h9) rfl dX1_surprise__1 ?_
  refine lv_iload_n hx hb dX1_surprise__4 rfl (lv_at hl 1 rfl) ?_
  refine rd_S (rest := []) ⟨hx, hb, hml, hown, hts⟩ (c_X1_headsIn l (vs_th v) (vs_t v) (t_) (by omega) (by omega)) g_X1_39 n_X1_headsIn ⟨Nat.le_of_ble_eq_true rfl, Nat.le_of_ble_eq_true rfl⟩ rfl hl.1 rfl (Nat.le_of_ble_eq_true rfl) dX1_surprise__5 ⟨Nat.zero_le _, Nat.zero_le _⟩ ?_
  refine lv_istore_n (lv' := [(2, .int (nI (hd_ (vs_th v) t_))), (0, .ref (b 0)), (1, .int (nI (t_)))]) hx hb dX1_surprise__8 rfl hl (by decide) rfl (fun ls hl => ?_)
  refine lv_aload_n hx hb dX1_surprise__9 rfl (lv_at hl 1 rfl) ?_
  refine lv_aload_n hx hb dX1_surprise__10 rfl (lv_at hl 1 rfl) ?_
  refine lv_iload_n hx hb dX1_surprise__11 rfl (lv_at hl 2 rfl) ?_
  refine rd_V (rest := [.ref (b 0)]) ⟨hx, hb, hml, hown, hts⟩ (c_X1_isUp l D κ b u v hv (t_) (by omega)) g_X1_100 n_X1_isUp ⟨Nat.le_of_ble_eq_true rfl, Nat.le_of_ble_eq_true rfl⟩ hK hP rfl rfl rfl hl.1 rfl (Nat.le_of_ble_eq_true rfl) dX1_surprise__12 ⟨Nat.zero_le _, Nat.zero_le _⟩ ?_
  refine lv_iload_n hx hb dX1_surprise__15 rfl (lv_at hl 0 rfl) ?_
  refine lv_iload_n hx hb dX1_surprise__16 rfl (lv_at hl 2 rfl) ?_
  refine lv_iload_n hx hb dX1_surprise__17 rfl (lv_at hl 0 rfl) ?_
  refine nv_isub (r := t_ - (hd_ (vs_th v) t_)) hx hb dX1_surprise__18 (by omega) ?_
  refine rd_V (rest := []) ⟨hx, hb, hml, hown, hts⟩ (c_X1_surprise l D κ b u v hv (vs_th v t_) (hd_ (vs_th v) t_) (t_ - (hd_ (vs_th v) t_)) (by omega) (hp)) g_X1_87 n_X1_surprise ⟨Nat.le_of_ble_eq_true rfl, Nat.le_of_ble_eq_true rfl⟩ hK hP rfl rfl rfl hl.1 rfl (Nat.le_of_ble_eq_true rfl) dX1_surprise__19 ⟨Nat.zero_le _, Nat.zero_le _⟩ ?_
  refine nv_topi (congrArg nI (show (su_ v (vs_th v t_) (hd_ (vs_th v) t_) (t_ - (hd_ (vs_th v) t_)) : Nat) = sa_ v t_ from by first | rfl | omega)) ?_
  exact hend _ _ dX1_surprise__22
set_option maxHeartbeats 4000000 in
set_option maxRecDepth 100000 in
theorem c_X1_surprises (l : Launch) (D : va_G) (κ : Nat → ClassId) (b : Nat → Nat) (u : Nat) (v : VS) (hv : ok_v v) (hpp : pp_ v) : Rd l yX1_surprises cX1_surprises 3 (some .int) 7 168 (Pw D (kt_ κ) (mw κ b u v) [.ref (b 0)]) (.int (nI (as_ v))) := by
  refine rd_intro (own := RX1) (by decide +kernel) rfl (Nat.le_of_ble_eq_true rfl) (fun p e s m args below meth c pc ls hx hb hr hlk d => ret_I hx hb hr hlk d) ?_
  intro p e s m args below meth c ls Qq hx hb hml hown hts hK hP hend hl
  have hl : lv_has ls 3 [(0, .ref (b 0))] := hl
  obtain ⟨hv1, hv2, hv3, hv4, hv5, hv6⟩ := id hv
  refine lv_iconst (v := nI (0)) hx hb dX1_surprises_0 (by decide) ?_
  refine lv_istore_n (lv' := [(1, .int (nI (0))), (0, .ref (b 0))]) hx hb dX1_surprises_1 rfl hl (by decide) rfl (fun ls hl => ?_)
  refine lv_iconst (v := nI (0)) hx hb dX1_surprises_2 (by decide) ?_
  refine lv_istore_n (lv' := [(2, .int (nI (0))), (1, .int (nI (0))), (0, .ref (b 0))]) hx hb dX1_surprises_3 rfl hl (by decide) rfl (fun ls hl => ?_)
  suffices hloop_4 : ∀ (n_4 i : Nat) (ls : Array Slot), i + n_4 = vs_t v → lv_has ls 3 [(0, .ref (b 0)), (1, .int (nI (sm_ (sa_ v) i))), (2, .int (nI (i)))] → W p l e (rm_ 7 168) s m args below meth c s.heap [] 0 0 Qq (F0 m 4 ls []) from hloop_4 (vs_t v - 0) (0) ls (by omega) (lv_cast (k := [(0, .ref (b 0)), (1, .int (nI (0))), (2, .int (nI (0)))]) (lv_sub hl [2, 1, 0] rfl) (lc_cons rfl (lc_cons (congrArg (fun z : Nat => ((1 : Nat), Value.int (nI z))) (show (0 : Nat) = sm_ (sa_ v) 0 from by first | rfl | omega)) (lc_cons rfl rfl))))
  intro n_4
  induction n_4 with
  | zero =>
    intro i ls hin_4 hl
    have hi_4 : i = vs_t v := by omega
    refine lv_iload_n hx hb dX1_surprises_4 rfl (lv_at hl 2 rfl) ?_
    refine lv_aload_n hx hb dX1_surprises_5 rfl (lv_at hl 0 rfl) ?_
    refine va_get (D := D) (ci := 1) (v := .int (nI (vs_t v))) (C := RX1) (T := TX1) (N := 8) hx hb hts i_X1 hown hK hP 0 rfl rfl 3 (by decide) (hts _ q_f_X1_33) (fun _ h9 => h9) rfl dX1_surprises_6 ?_
    refine nv_icmp_ge (tgt := 26) hx hb dX1_surprises_9 (by decide) (by omega) (by omega) (fun c_9 => ?_) (fun z => absurd z (by omega))
    refine lv_iload_n hx hb dX1_surprises_26 rfl (lv_at hl 1 rfl) ?_
    refine nv_topi (congrArg nI (show (sm_ (sa_ v) i : Nat) = as_ v from by rw [hi_4]; rfl)) ?_
    exact hend _ _ dX1_surprises_27
  | succ n_4 ih_4 =>
    intro i ls hin_4 hl
    refine lv_iload_n hx hb dX1_surprises_4 rfl (lv_at hl 2 rfl) ?_
    refine lv_aload_n hx hb dX1_surprises_5 rfl (lv_at hl 0 rfl) ?_
    refine va_get (D := D) (ci := 1) (v := .int (nI (vs_t v))) (C := RX1) (T := TX1) (N := 8) hx hb hts i_X1 hown hK hP 0 rfl rfl 3 (by decide) (hts _ q_f_X1_33) (fun _ h9 => h9) rfl dX1_surprises_6 ?_
    refine nv_icmp_ge (tgt := 26) hx hb dX1_surprises_9 (by decide) (by omega) (by omega) (fun z => absurd z (by omega)) (fun c_9 => ?_)
    refine lv_iload_n hx hb dX1_surprises_12 rfl (lv_at hl 1 rfl) ?_
    refine lv_aload_n hx hb dX1_surprises_13 rfl (lv_at hl 0 rfl) ?_
    refine lv_iload_n hx hb dX1_surprises_14 rfl (lv_at hl 2 rfl) ?_
    refine rd_V (rest := [.int (nI (sm_ (sa_ v) i))]) ⟨hx, hb, hml, hown, hts⟩ (c_X1_surprise_ l D κ b u v hv (i) (by omega) (hpp i (by omega))) g_X1_128 n_X1_surprise_ ⟨Nat.le_of_ble_eq_true rfl, Nat.le_of_ble_eq_true rfl⟩ hK hP rfl rfl rfl hl.1 rfl (Nat.le_of_ble_eq_true rfl) dX1_surprises_15 ⟨Nat.zero_le _, Nat.zero_le _⟩ ?_
    refine nv_iadd hx hb dX1_surprises_18 rfl ?_
    refine lv_istore_n (lv' := [(1, .int (nI ((sm_ (sa_ v) i) + (sa_ v i)))), (0, .ref (b 0)), (2, .int (nI (i)))]) hx hb dX1_surprises_19 rfl hl (by decide) rfl (fun ls hl => ?_)
    refine lv_iinc (v := nI (i + 1)) (lv' := [(2, .int (nI (i + 1))), (1, .int (nI ((sm_ (sa_ v) i) + (sa_ v i)))), (0, .ref (b 0))]) hx hb dX1_surprises_20 hl (k := 2) rfl (nI_add _ _) (by decide) rfl (fun ls hl => ?_)
    refine lv_goto (tgt := 4) hx hb dX1_surprises_23 (by decide) ?_
    exact ih_4 (i + 1) ls (by omega) (lv_cast (k := [(0, .ref (b 0)), (1, .int (nI ((sm_ (sa_ v) i) + (sa_ v i)))), (2, .int (nI (i + 1)))]) (lv_sub hl [2, 1, 0] rfl) (lc_cons rfl (lc_cons (congrArg (fun z : Nat => ((1 : Nat), Value.int (nI z))) (show ((sm_ (sa_ v) i) + (sa_ v i) : Nat) = sm_ (sa_ v) (i + 1) from by first | rfl | omega)) (lc_cons (congrArg (fun z : Nat => ((2 : Nat), Value.int (nI z))) (show (i + 1 : Nat) = (i + 1) from by first | rfl | omega)) rfl))))
set_option maxHeartbeats 4000000 in
set_option maxRecDepth 100000 in
theorem c_X1_isFirst (l : Launch) (D : va_G) (κ : Nat → ClassId) (b : Nat → Nat) (u : Nat) (v : VS) (hv : ok_v v) (c_ : Nat) (x : Nat) (y : Nat) (hc : c_ < vs_c v) (hxy : x + y ≤ 13) : Rd l yX1_isFirst cX1_isFirst 4 (some .boolean) 4 94 (Pw D (kt_ κ) (mw κ b u v) [.ref (b 0), .int (nI (c_)), .int (nI (x)), .int (nI (y))]) (.int (bI (fi_ v c_ x y))) := by
  refine rd_intro (own := RX1) (by decide +kernel) rfl (Nat.le_of_ble_eq_true rfl) (fun p e s m args below meth c pc ls hx hb hr hlk d => ret_Z hx hb hr hlk d) ?_
  intro p e s m args below meth c ls Qq hx hb hml hown hts hK hP hend hl
  have hl : lv_has ls 4 [(0, .ref (b 0)), (1, .int (nI (c_))), (2, .int (nI (x))), (3, .int (nI (y)))] := hl
  obtain ⟨hv1, hv2, hv3, hv4, hv5, hv6⟩ := id hv
  have hb1 := wt_b hv c_ hxy
  have hb2 := ld_le v x y (vs_c v)
  refine lv_aload_n hx hb dX1_isFirst_0 rfl (lv_at hl 0 rfl) ?_
  refine lv_iload_n hx hb dX1_isFirst_1 rfl (lv_at hl 1 rfl) ?_
  refine lv_iload_n hx hb dX1_isFirst_2 rfl (lv_at hl 2 rfl) ?_
  refine lv_iload_n hx hb dX1_isFirst_3 rfl (lv_at hl 3 rfl) ?_
  refine rd_V (rest := []) ⟨hx, hb, hml, hown, hts⟩ (c_X1_weight l D κ b u v hv (c_) (x) (y) (by omega) (by omega) (by omega)) g_X1_55 n_X1_weight ⟨Nat.le_of_ble_eq_true rfl, Nat.le_of_ble_eq_true rfl⟩ hK hP rfl rfl rfl hl.1 rfl (Nat.le_of_ble_eq_true rfl) dX1_isFirst_4 ⟨Nat.zero_le _, Nat.zero_le _⟩ ?_
  refine lv_lconst (v := lN (0)) hx hb dX1_isFirst_7 (by decide) ?_
  refine nv_lc_le (tgt := 26) hx hb dX1_isFirst_8 dX1_isFirst_9 (by decide) (by omega) (by omega) (fun c_9 => ?_) (fun c_9 => ?_)
  · refine lv_iconst (v := nI (0)) hx hb dX1_isFirst_26 (by decide) ?_
    refine nv_topi (show (nI (0) : Int32) = bI (fi_ v c_ x y) from by first | exact fi_1 c_9 c_19 | exact fi_2 c_9 | exact fi_3 c_19) ?_
    exact hend _ _ dX1_isFirst_27
  · refine lv_aload_n hx hb dX1_isFirst_12 rfl (lv_at hl 0 rfl) ?_
    refine lv_iload_n hx hb dX1_isFirst_13 rfl (lv_at hl 2 rfl) ?_
    refine lv_iload_n hx hb dX1_isFirst_14 rfl (lv_at hl 3 rfl) ?_
    refine rd_V (rest := []) ⟨hx, hb, hml, hown, hts⟩ (c_X1_leader l D κ b u v hv (x) (y) (by omega)) g_X1_122 n_X1_leader ⟨Nat.le_of_ble_eq_true rfl, Nat.le_of_ble_eq_true rfl⟩ hK hP rfl rfl rfl hl.1 rfl (Nat.le_of_ble_eq_true rfl) dX1_isFirst_15 ⟨Nat.zero_le _, Nat.zero_le _⟩ ?_
    refine lv_iload_n hx hb dX1_isFirst_18 rfl (lv_at hl 1 rfl) ?_
    refine nv_icmp_ne (tgt := 26) hx hb dX1_isFirst_19 (by decide) (by omega) (by omega) (fun c_19 => ?_) (fun c_19 => ?_)
    · refine lv_iconst (v := nI (0)) hx hb dX1_isFirst_26 (by decide) ?_
      refine nv_topi (show (nI (0) : Int32) = bI (fi_ v c_ x y) from by first | exact fi_1 c_9 c_19 | exact fi_2 c_9 | exact fi_3 c_19) ?_
      exact hend _ _ dX1_isFirst_27
    · refine lv_iconst (v := nI (1)) hx hb dX1_isFirst_22 (by decide) ?_
      refine lv_goto (tgt := 27) hx hb dX1_isFirst_23 (by decide) ?_
      refine nv_topi (show (nI (1) : Int32) = bI (fi_ v c_ x y) from by first | exact fi_1 c_9 c_19 | exact fi_2 c_9 | exact fi_3 c_19) ?_
      exact hend _ _ dX1_isFirst_27
set_option maxHeartbeats 4000000 in
set_option maxRecDepth 100000 in
theorem c_X1_toLead (l : Launch) (D : va_G) (κ : Nat → ClassId) (b : Nat → Nat) (u : Nat) (v : VS) (hv : ok_v v) (c_ : Nat) (hc : c_ < vs_c v) : Rd l yX1_toLead cX1_toLead 5 (some .int) 5 117 (Pw D (kt_ κ) (mw κ b u v) [.ref (b 0), .int (nI (c_))]) (.int (tl_ v c_)) := by
  refine rd_intro (own := RX1) (by decide +kernel) rfl (Nat.le_of_ble_eq_true rfl) (fun p e s m args below meth c pc ls hx hb hr hlk d => ret_I hx hb hr hlk d) ?_
  intro p e s m args below meth c ls Qq hx hb hml hown hts hK hP hend hl
  have hl : lv_has ls 5 [(0, .ref (b 0)), (1, .int (nI (c_)))] := hl
  obtain ⟨hv1, hv2, hv3, hv4, hv5, hv6⟩ := id hv
  have hq1 := hh_le v
  have hq2 := hh_tt v
  refine lv_aload_n hx hb dX1_toLead_0 rfl (lv_at hl 0 rfl) ?_
  refine rd_V (rest := []) ⟨hx, hb, hml, hown, hts⟩ (c_X1_headsNow l D κ b u v hv) g_X1_69 n_X1_headsNow ⟨Nat.le_of_ble_eq_true rfl, Nat.le_of_ble_eq_true rfl⟩ hK hP rfl rfl rfl hl.1 rfl (Nat.le_of_ble_eq_true rfl) dX1_toLead_1 ⟨Nat.zero_le _, Nat.zero_le _⟩ ?_
  refine lv_istore_n (lv' := [(2, .int (nI (hh_ v))), (0, .ref (b 0)), (1, .int (nI (c_)))]) hx hb dX1_toLead_4 rfl hl (by decide) rfl (fun ls hl => ?_)
  refine lv_aload_n hx hb dX1_toLead_5 rfl (lv_at hl 1 rfl) ?_
  refine va_get (D := D) (ci := 1) (v := .int (nI (vs_t v))) (C := RX1) (T := TX1) (N := 8) hx hb hts i_X1 hown hK hP 0 rfl rfl 3 (by decide) (hts _ q_f_X1_33) (fun _ h9 => h9) rfl dX1_toLead_6 ?_
  refine lv_iload_n hx hb dX1_toLead_9 rfl (lv_at hl 0 rfl) ?_
  refine nv_isub (r := (vs_t v) - (hh_ v)) hx hb dX1_toLead_10 (by omega) ?_
  refine nv_topi (congrArg nI (show ((vs_t v) - (hh_ v) : Nat) = tt_ v from by rfl)) ?_
  refine lv_istore_n (lv' := [(3, .int (nI (tt_ v))), (2, .int (nI (hh_ v))), (0, .ref (b 0)), (1, .int (nI (c_)))]) hx hb dX1_toLead_11 rfl hl (by decide) rfl (fun ls hl => ?_)
  refine lv_iconst (v := nI (0)) hx hb dX1_toLead_12 (by decide) ?_
  refine lv_istore (lv' := [(4, .int (nI (0))), (3, .int (nI (tt_ v))), (2, .int (nI (hh_ v))), (0, .ref (b 0)), (1, .int (nI (c_)))]) hx hb dX1_toLead_13 hl (by decide) rfl (fun ls hl => ?_)
  suffices hloop_15 : ∀ (n_15 i : Nat) (ls : Array Slot), i + n_15 = 13 - vs_t v → lv_has ls 5 [(0, .ref (b 0)), (1, .int (nI (c_))), (2, .int (nI (hh_ v))), (3, .int (nI (tt_ v))), (4, .int (nI (i)))] → (tl_ v c_ = sr_ (tp_ v c_) (13 - vs_t v - i) i) → W p l e (rm_ 5 117) s m args below meth c s.heap [] 0 0 Qq (F0 m 15 ls []) from hloop_15 (13 - vs_t v - 0) (0) ls (by omega) (lv_sub hl [3, 4, 2, 1, 0] rfl) (rfl)
  intro n_15
  induction n_15 with
  | zero =>
    intro i ls hin_15 hl hj
    have hi_15 : i = 13 - vs_t v := by omega
    refine lv_aload_n hx hb dX1_toLead_15 rfl (lv_at hl 0 rfl) ?_
    refine va_get (D := D) (ci := 1) (v := .int (nI (vs_t v))) (C := RX1) (T := TX1) (N := 8) hx hb hts i_X1 hown hK hP 0 rfl rfl 3 (by decide) (hts _ q_f_X1_33) (fun _ h9 => h9) rfl dX1_toLead_16 ?_
    refine lv_iload hx hb dX1_toLead_19 (lv_at hl 4 rfl) ?_
    refine nv_iadd hx hb dX1_toLead_21 rfl ?_
    refine lv_bipush (v := nI (12)) hx hb dX1_toLead_22 (by decide) ?_
    refine nv_icmp_gt (tgt := 62) hx hb dX1_toLead_24 (by decide) (by omega) (by omega) (fun c_24 => ?_) (fun z => absurd z (by omega))
    refine lv_iconst (v := (-1)) hx hb dX1_toLead_62 (by decide) ?_
    refine nv_topi (show (-1 : Int32) = tl_ v c_ from by first | exact ttl_end hj hi_15 | exact ttl_fit1 hj (by omega) c_37 | exact ttl_fit2 hj (by omega) c_50) ?_
    exact hend _ _ dX1_toLead_63
  | succ n_15 ih_15 =>
    intro i ls hin_15 hl hj
    refine lv_aload_n hx hb dX1_toLead_15 rfl (lv_at hl 0 rfl) ?_
    refine va_get (D := D) (ci := 1) (v := .int (nI (vs_t v))) (C := RX1) (T := TX1) (N := 8) hx hb hts i_X1 hown hK hP 0 rfl rfl 3 (by decide) (hts _ q_f_X1_33) (fun _ h9 => h9) rfl dX1_toLead_16 ?_
    refine lv_iload hx hb dX1_toLead_19 (lv_at hl 4 rfl) ?_
    refine nv_iadd hx hb dX1_toLead_21 rfl ?_
    refine lv_bipush (v := nI (12)) hx hb dX1_toLead_22 (by decide) ?_
    refine nv_icmp_gt (tgt := 62) hx hb dX1_toLead_24 (by decide) (by omega) (by omega) (fun z => absurd z (by omega)) (fun c_24 => ?_)
    refine lv_aload_n hx hb dX1_toLead_27 rfl (lv_at hl 0 rfl) ?_
    refine lv_iload_n hx hb dX1_toLead_28 rfl (lv_at hl 1 rfl) ?_
    refine lv_iload_n hx hb dX1_toLead_29 rfl (lv_at hl 2 rfl) ?_
    refine lv_iload hx hb dX1_toLead_30 (lv_at hl 4 rfl) ?_
    refine nv_iadd hx hb dX1_toLead_32 rfl ?_
    refine lv_iload_n hx hb dX1_toLead_33 rfl (lv_at hl 3 rfl) ?_
    refine rd_V (rest := []) ⟨hx, hb, hml, hown, hts⟩ (c_X1_isFirst l D κ b u v hv (c_) ((hh_ v) + i) (tt_ v) (by omega) (by omega)) g_X1_133 n_X1_isFirst ⟨Nat.le_of_ble_eq_true rfl, Nat.le_of_ble_eq_true rfl⟩ hK hP rfl rfl rfl hl.1 rfl (Nat.le_of_ble_eq_true rfl) dX1_toLead_34 ⟨Nat.zero_le _, Nat.zero_le _⟩ ?_
    refine bv_if_ne (tgt := 53) hx hb dX1_toLead_37 (by decide) (fun c_37 => ?_) (fun c_37 => ?_)
    · refine lv_iload hx hb dX1_toLead_53 (lv_at hl 4 rfl) ?_
      refine nv_topi (show (nI (i) : Int32) = tl_ v c_ from by first | exact ttl_end hj hi_15 | exact ttl_fit1 hj (by omega) c_37 | exact ttl_fit2 hj (by omega) c_50) ?_
      exact hend _ _ dX1_toLead_55
    · refine lv_aload_n hx hb dX1_toLead_40 rfl (lv_at hl 0 rfl) ?_
      refine lv_iload_n hx hb dX1_toLead_41 rfl (lv_at hl 1 rfl) ?_
      refine lv_iload_n hx hb dX1_toLead_42 rfl (lv_at hl 2 rfl) ?_
      refine lv_iload_n hx hb dX1_toLead_43 rfl (lv_at hl 3 rfl) ?_
      refine lv_iload hx hb dX1_toLead_44 (lv_at hl 4 rfl) ?_
      refine nv_iadd hx hb dX1_toLead_46 rfl ?_
      refine rd_V (rest := []) ⟨hx, hb, hml, hown, hts⟩ (c_X1_isFirst l D κ b u v hv (c_) (hh_ v) ((tt_ v) + i) (by omega) (by omega)) g_X1_133 n_X1_isFirst ⟨Nat.le_of_ble_eq_true rfl, Nat.le_of_ble_eq_true rfl⟩ hK hP rfl rfl rfl hl.1 rfl (Nat.le_of_ble_eq_true rfl) dX1_toLead_47 ⟨Nat.zero_le _, Nat.zero_le _⟩ ?_
      refine bv_if_eq (tgt := 56) hx hb dX1_toLead_50 (by decide) (fun c_50 => ?_) (fun c_50 => ?_)
      · refine lv_iinc (v := nI (i + 1)) (lv' := [(4, .int (nI (i + 1))), (0, .ref (b 0)), (1, .int (nI (c_))), (2, .int (nI (hh_ v))), (3, .int (nI (tt_ v)))]) hx hb dX1_toLead_56 hl (k := 4) rfl (nI_add _ _) (by decide) rfl (fun ls hl => ?_)
        refine lv_goto (tgt := 15) hx hb dX1_toLead_59 (by decide) ?_
        exact ih_15 (i + 1) ls (by omega) (lv_cast (k := [(0, .ref (b 0)), (1, .int (nI (c_))), (2, .int (nI (hh_ v))), (3, .int (nI (tt_ v))), (4, .int (nI (i + 1)))]) (lv_sub hl [1, 2, 3, 4, 0] rfl) (lc_cons rfl (lc_cons rfl (lc_cons rfl (lc_cons rfl (lc_cons (congrArg (fun z : Nat => ((4 : Nat), Value.int (nI z))) (show (i + 1 : Nat) = (i + 1) from by first | rfl | omega)) rfl)))))) (ttl_fiss hj (by omega) c_37 c_50)
      · refine lv_iload hx hb dX1_toLead_53 (lv_at hl 4 rfl) ?_
        refine nv_topi (show (nI (i) : Int32) = tl_ v c_ from by first | exact ttl_end hj hi_15 | exact ttl_fit1 hj (by omega) c_37 | exact ttl_fit2 hj (by omega) c_50) ?_
        exact hend _ _ dX1_toLead_55
set_option maxHeartbeats 4000000 in
set_option maxRecDepth 100000 in
theorem c_X1_decisive (l : Launch) (D : va_G) (κ : Nat → ClassId) (b : Nat → Nat) (u : Nat) (v : VS) (hv : ok_v v) : Rd l yX1_decisive cX1_decisive 6 (some .int) 5 114 (Pw D (kt_ κ) (mw κ b u v) [.ref (b 0)]) (.int (nI (dc_ v))) := by
  refine rd_intro (own := RX1) (by decide +kernel) rfl (Nat.le_of_ble_eq_true rfl) (fun p e s m args below meth c pc ls hx hb hr hlk d => ret_I hx hb hr hlk d) ?_
  intro p e s m args below meth c ls Qq hx hb hml hown hts hK hP hend hl
  have hl : lv_has ls 6 [(0, .ref (b 0))] := hl
  obtain ⟨hv1, hv2, hv3, hv4, hv5, hv6⟩ := id hv
  have hq1 := hh_le v
  have hq2 := hh_tt v
  have hb2 := ld_le v (hh_ v) (tt_ v) (vs_c v)
  refine lv_aload_n hx hb dX1_decisive_0 rfl (lv_at hl 0 rfl) ?_
  refine rd_V (rest := []) ⟨hx, hb, hml, hown, hts⟩ (c_X1_headsNow l D κ b u v hv) g_X1_69 n_X1_headsNow ⟨Nat.le_of_ble_eq_true rfl, Nat.le_of_ble_eq_true rfl⟩ hK hP rfl rfl rfl hl.1 rfl (Nat.le_of_ble_eq_true rfl) dX1_decisive_1 ⟨Nat.zero_le _, Nat.zero_le _⟩ ?_
  refine lv_istore_n (lv' := [(1, .int (nI (hh_ v))), (0, .ref (b 0))]) hx hb dX1_decisive_4 rfl hl (by decide) rfl (fun ls hl => ?_)
  refine lv_aload_n hx hb dX1_decisive_5 rfl (lv_at hl 1 rfl) ?_
  refine va_get (D := D) (ci := 1) (v := .int (nI (vs_t v))) (C := RX1) (T := TX1) (N := 8) hx hb hts i_X1 hown hK hP 0 rfl rfl 3 (by decide) (hts _ q_f_X1_33) (fun _ h9 => h9) rfl dX1_decisive_6 ?_
  refine lv_iload_n hx hb dX1_decisive_9 rfl (lv_at hl 0 rfl) ?_
  refine nv_isub (r := (vs_t v) - (hh_ v)) hx hb dX1_decisive_10 (by omega) ?_
  refine nv_topi (congrArg nI (show ((vs_t v) - (hh_ v) : Nat) = tt_ v from by rfl)) ?_
  refine lv_istore_n (lv' := [(2, .int (nI (tt_ v))), (1, .int (nI (hh_ v))), (0, .ref (b 0))]) hx hb dX1_decisive_11 rfl hl (by decide) rfl (fun ls hl => ?_)
  refine lv_aload_n hx hb dX1_decisive_12 rfl (lv_at hl 2 rfl) ?_
  refine rd_V (rest := []) ⟨hx, hb, hml, hown, hts⟩ (c_X1_leads l D κ b u v hv) g_X1_125 n_X1_leads ⟨Nat.le_of_ble_eq_true rfl, Nat.le_of_ble_eq_true rfl⟩ hK hP rfl rfl rfl hl.1 rfl (Nat.le_of_ble_eq_true rfl) dX1_decisive_13 ⟨Nat.zero_le _, Nat.zero_le _⟩ ?_
  refine lv_istore_n (lv' := [(3, .int (nI (ld_ v (hh_ v) (tt_ v) (vs_c v)))), (2, .int (nI (tt_ v))), (1, .int (nI (hh_ v))), (0, .ref (b 0))]) hx hb dX1_decisive_16 rfl hl (by decide) rfl (fun ls hl => ?_)
  refine lv_iconst (v := nI (0)) hx hb dX1_decisive_17 (by decide) ?_
  refine lv_istore (lv' := [(4, .int (nI (0))), (3, .int (nI (ld_ v (hh_ v) (tt_ v) (vs_c v)))), (2, .int (nI (tt_ v))), (1, .int (nI (hh_ v))), (0, .ref (b 0))]) hx hb dX1_decisive_18 hl (by decide) rfl (fun ls hl => ?_)
  refine lv_iconst (v := nI (0)) hx hb dX1_decisive_20 (by decide) ?_
  refine lv_istore (lv' := [(5, .int (nI (0))), (4, .int (nI (0))), (3, .int (nI (ld_ v (hh_ v) (tt_ v) (vs_c v)))), (2, .int (nI (tt_ v))), (1, .int (nI (hh_ v))), (0, .ref (b 0))]) hx hb dX1_decisive_21 hl (by decide) rfl (fun ls hl => ?_)
  suffices hloop_23 : ∀ (n_23 i : Nat) (ls : Array Slot), i + n_23 = vs_t v → lv_has ls 6 [(0, .ref (b 0)), (1, .int (nI (hh_ v))), (2, .int (nI (tt_ v))), (3, .int (nI (ld_ v (hh_ v) (tt_ v) (vs_c v)))), (4, .int (nI (sm_ (dcf_ v) i))), (5, .int (nI (i)))] → W p l e (rm_ 5 114) s m args below meth c s.heap [] 0 0 Qq (F0 m 23 ls []) from hloop_23 (vs_t v - 0) (0) ls (by omega) (lv_cast (k := [(0, .ref (b 0)), (1, .int (nI (hh_ v))), (2, .int (nI (tt_ v))), (3, .int (nI (ld_ v (hh_ v) (tt_ v) (vs_c v)))), (4, .int (nI (0))), (5, .int (nI (0)))]) (lv_sub hl [5, 4, 3, 2, 1, 0] rfl) (lc_cons rfl (lc_cons rfl (lc_cons rfl (lc_cons rfl (lc_cons (congrArg (fun z : Nat => ((4 : Nat), Value.int (nI z))) (show (0 : Nat) = sm_ (dcf_ v) 0 from by first | rfl | omega)) (lc_cons rfl rfl)))))))
  intro n_23
  induction n_23 with
  | zero =>
    intro i ls hin_23 hl
    have hi_23 : i = vs_t v := by omega
    have hb3 := lw_le v i
    refine lv_iload hx hb dX1_decisive_23 (lv_at hl 5 rfl) ?_
    refine lv_aload_n hx hb dX1_decisive_25 rfl (lv_at hl 0 rfl) ?_
    refine va_get (D := D) (ci := 1) (v := .int (nI (vs_t v))) (C := RX1) (T := TX1) (N := 8) hx hb hts i_X1 hown hK hP 0 rfl rfl 3 (by decide) (hts _ q_f_X1_33) (fun _ h9 => h9) rfl dX1_decisive_26 ?_
    refine nv_icmp_ge (tgt := 80) hx hb dX1_decisive_29 (by decide) (by omega) (by omega) (fun c_29 => ?_) (fun z => absurd z (by omega))
    refine lv_iload hx hb dX1_decisive_80 (lv_at hl 4 rfl) ?_
    refine nv_topi (congrArg nI (show (sm_ (dcf_ v) i : Nat) = dc_ v from by rw [hi_23]; rfl)) ?_
    exact hend _ _ dX1_decisive_82
  | succ n_23 ih_23 =>
    intro i ls hin_23 hl
    have hb3 := lw_le v i
    refine lv_iload hx hb dX1_decisive_23 (lv_at hl 5 rfl) ?_
    refine lv_aload_n hx hb dX1_decisive_25 rfl (lv_at hl 0 rfl) ?_
    refine va_get (D := D) (ci := 1) (v := .int (nI (vs_t v))) (C := RX1) (T := TX1) (N := 8) hx hb hts i_X1 hown hK hP 0 rfl rfl 3 (by decide) (hts _ q_f_X1_33) (fun _ h9 => h9) rfl dX1_decisive_26 ?_
    refine nv_icmp_ge (tgt := 80) hx hb dX1_decisive_29 (by decide) (by omega) (by omega) (fun z => absurd z (by omega)) (fun c_29 => ?_)
    refine lv_iload hx hb dX1_decisive_32 (lv_at hl 4 rfl) ?_
    refine lv_aload_n hx hb dX1_decisive_34 rfl (lv_at hl 0 rfl) ?_
    refine lv_iload hx hb dX1_decisive_35 (lv_at hl 5 rfl) ?_
    refine rd_V (rest := [.int (nI (sm_ (dcf_ v) i))]) ⟨hx, hb, hml, hown, hts⟩ (c_X1_isUp l D κ b u v hv (i) (by omega)) g_X1_100 n_X1_isUp ⟨Nat.le_of_ble_eq_true rfl, Nat.le_of_ble_eq_true rfl⟩ hK hP rfl rfl rfl hl.1 rfl (Nat.le_of_ble_eq_true rfl) dX1_decisive_37 ⟨Nat.zero_le _, Nat.zero_le _⟩ ?_
    refine bv_if_eq (tgt := 54) hx hb dX1_decisive_40 (by decide) (fun c_40 => ?_) (fun c_40 => ?_)
    · refine lv_aload_n hx hb dX1_decisive_54 rfl (lv_at hl 0 rfl) ?_
      refine lv_iload_n hx hb dX1_decisive_55 rfl (lv_at hl 1 rfl) ?_
      refine lv_iload_n hx hb dX1_decisive_56 rfl (lv_at hl 2 rfl) ?_
      refine lv_iconst (v := nI (1)) hx hb dX1_decisive_57 (by decide) ?_
      refine nv_isub (r := (tt_ v) - 1) hx hb dX1_decisive_58 (by have := tt_pos (v := v) (i := i) (by omega) c_40; omega) ?_
      refine rd_V (rest := [.int (nI (sm_ (dcf_ v) i))]) ⟨hx, hb, hml, hown, hts⟩ (c_X1_leader l D κ b u v hv (hh_ v) ((tt_ v) - 1) (by omega)) g_X1_122 n_X1_leader ⟨Nat.le_of_ble_eq_true rfl, Nat.le_of_ble_eq_true rfl⟩ hK hP rfl rfl rfl hl.1 rfl (Nat.le_of_ble_eq_true rfl) dX1_decisive_59 ⟨Nat.zero_le _, Nat.zero_le _⟩ ?_
      refine nv_topi (congrArg nI (show (ld_ v (hh_ v) ((tt_ v) - 1) (vs_c v) : Nat) = lw_ v i from by exact (if_neg (by rw [c_40]; simp)).symm)) ?_
      refine lv_iload_n hx hb dX1_decisive_62 rfl (lv_at hl 3 rfl) ?_
      refine nv_icmp_eq (tgt := 70) hx hb dX1_decisive_63 (by decide) (by omega) (by omega) (fun c_63 => ?_) (fun c_63 => ?_)
      · refine lv_iconst (v := nI (0)) hx hb dX1_decisive_70 (by decide) ?_
        refine nv_topi (congrArg nI (show (0 : Nat) = dcf_ v i from by simp [dcf_, c_63])) ?_
        refine nv_iadd hx hb dX1_decisive_71 rfl ?_
        refine lv_istore (lv' := [(4, .int (nI ((sm_ (dcf_ v) i) + (dcf_ v i)))), (0, .ref (b 0)), (1, .int (nI (hh_ v))), (2, .int (nI (tt_ v))), (3, .int (nI (ld_ v (hh_ v) (tt_ v) (vs_c v)))), (5, .int (nI (i)))]) hx hb dX1_decisive_72 hl (by decide) rfl (fun ls hl => ?_)
        refine lv_iinc (v := nI (i + 1)) (lv' := [(5, .int (nI (i + 1))), (4, .int (nI ((sm_ (dcf_ v) i) + (dcf_ v i)))), (0, .ref (b 0)), (1, .int (nI (hh_ v))), (2, .int (nI (tt_ v))), (3, .int (nI (ld_ v (hh_ v) (tt_ v) (vs_c v))))]) hx hb dX1_decisive_74 hl (k := 5) rfl (nI_add _ _) (by decide) rfl (fun ls hl => ?_)
        refine lv_goto (tgt := 23) hx hb dX1_decisive_77 (by decide) ?_
        exact ih_23 (i + 1) ls (by omega) (lv_cast (k := [(0, .ref (b 0)), (1, .int (nI (hh_ v))), (2, .int (nI (tt_ v))), (3, .int (nI (ld_ v (hh_ v) (tt_ v) (vs_c v)))), (4, .int (nI ((sm_ (dcf_ v) i) + (dcf_ v i)))), (5, .int (nI (i + 1)))]) (lv_sub hl [2, 3, 4, 5, 1, 0] rfl) (lc_cons rfl (lc_cons rfl (lc_cons rfl (lc_cons rfl (lc_cons (congrArg (fun z : Nat => ((4 : Nat), Value.int (nI z))) (show ((sm_ (dcf_ v) i) + (dcf_ v i) : Nat) = sm_ (dcf_ v) (i + 1) from by first | rfl | omega)) (lc_cons (congrArg (fun z : Nat => ((5 : Nat), Value.int (nI z))) (show (i + 1 : Nat) = (i + 1) from by first | rfl | omega)) rfl)))))))
      · refine lv_iconst (v := nI (1)) hx hb dX1_decisive_66 (by decide) ?_
        refine lv_goto (tgt := 71) hx hb dX1_decisive_67 (by decide) ?_
        refine nv_topi (congrArg nI (show (1 : Nat) = dcf_ v i from by simp [dcf_, c_63])) ?_
        refine nv_iadd hx hb dX1_decisive_71 rfl ?_
        refine lv_istore (lv' := [(4, .int (nI ((sm_ (dcf_ v) i) + (dcf_ v i)))), (0, .ref (b 0)), (1, .int (nI (hh_ v))), (2, .int (nI (tt_ v))), (3, .int (nI (ld_ v (hh_ v) (tt_ v) (vs_c v)))), (5, .int (nI (i)))]) hx hb dX1_decisive_72 hl (by decide) rfl (fun ls hl => ?_)
        refine lv_iinc (v := nI (i + 1)) (lv' := [(5, .int (nI (i + 1))), (4, .int (nI ((sm_ (dcf_ v) i) + (dcf_ v i)))), (0, .ref (b 0)), (1, .int (nI (hh_ v))), (2, .int (nI (tt_ v))), (3, .int (nI (ld_ v (hh_ v) (tt_ v) (vs_c v))))]) hx hb dX1_decisive_74 hl (k := 5) rfl (nI_add _ _) (by decide) rfl (fun ls hl => ?_)
        refine lv_goto (tgt := 23) hx hb dX1_decisive_77 (by decide) ?_
        exact ih_23 (i + 1) ls (by omega) (lv_cast (k := [(0, .ref (b 0)), (1, .int (nI (hh_ v))), (2, .int (nI (tt_ v))), (3, .int (nI (ld_ v (hh_ v) (tt_ v) (vs_c v)))), (4, .int (nI ((sm_ (dcf_ v) i) + (dcf_ v i)))), (5, .int (nI (i + 1)))]) (lv_sub hl [2, 3, 4, 5, 1, 0] rfl) (lc_cons rfl (lc_cons rfl (lc_cons rfl (lc_cons rfl (lc_cons (congrArg (fun z : Nat => ((4 : Nat), Value.int (nI z))) (show ((sm_ (dcf_ v) i) + (dcf_ v i) : Nat) = sm_ (dcf_ v) (i + 1) from by first | rfl | omega)) (lc_cons (congrArg (fun z : Nat => ((5 : Nat), Value.int (nI z))) (show (i + 1 : Nat) = (i + 1) from by first | rfl | omega)) rfl)))))))
    · refine lv_aload_n hx hb dX1_decisive_43 rfl (lv_at hl 0 rfl) ?_
      refine lv_iload_n hx hb dX1_decisive_44 rfl (lv_at hl 1 rfl) ?_
      refine lv_iconst (v := nI (1)) hx hb dX1_decisive_45 (by decide) ?_
      refine nv_isub (r := (hh_ v) - 1) hx hb dX1_decisive_46 (by have := hh_pos (v := v) (i := i) (by omega) c_40; omega) ?_
      refine lv_iload_n hx hb dX1_decisive_47 rfl (lv_at hl 2 rfl) ?_
      refine rd_V (rest := [.int (nI (sm_ (dcf_ v) i))]) ⟨hx, hb, hml, hown, hts⟩ (c_X1_leader l D κ b u v hv ((hh_ v) - 1) (tt_ v) (by omega)) g_X1_122 n_X1_leader ⟨Nat.le_of_ble_eq_true rfl, Nat.le_of_ble_eq_true rfl⟩ hK hP rfl rfl rfl hl.1 rfl (Nat.le_of_ble_eq_true rfl) dX1_decisive_48 ⟨Nat.zero_le _, Nat.zero_le _⟩ ?_
      refine lv_goto (tgt := 62) hx hb dX1_decisive_51 (by decide) ?_
      refine nv_topi (congrArg nI (show (ld_ v ((hh_ v) - 1) (tt_ v) (vs_c v) : Nat) = lw_ v i from by exact (if_pos c_40).symm)) ?_
      refine lv_iload_n hx hb dX1_decisive_62 rfl (lv_at hl 3 rfl) ?_
      refine nv_icmp_eq (tgt := 70) hx hb dX1_decisive_63 (by decide) (by omega) (by omega) (fun c_63 => ?_) (fun c_63 => ?_)
      · refine lv_iconst (v := nI (0)) hx hb dX1_decisive_70 (by decide) ?_
        refine nv_topi (congrArg nI (show (0 : Nat) = dcf_ v i from by simp [dcf_, c_63])) ?_
        refine nv_iadd hx hb dX1_decisive_71 rfl ?_
        refine lv_istore (lv' := [(4, .int (nI ((sm_ (dcf_ v) i) + (dcf_ v i)))), (0, .ref (b 0)), (1, .int (nI (hh_ v))), (2, .int (nI (tt_ v))), (3, .int (nI (ld_ v (hh_ v) (tt_ v) (vs_c v)))), (5, .int (nI (i)))]) hx hb dX1_decisive_72 hl (by decide) rfl (fun ls hl => ?_)
        refine lv_iinc (v := nI (i + 1)) (lv' := [(5, .int (nI (i + 1))), (4, .int (nI ((sm_ (dcf_ v) i) + (dcf_ v i)))), (0, .ref (b 0)), (1, .int (nI (hh_ v))), (2, .int (nI (tt_ v))), (3, .int (nI (ld_ v (hh_ v) (tt_ v) (vs_c v))))]) hx hb dX1_decisive_74 hl (k := 5) rfl (nI_add _ _) (by decide) rfl (fun ls hl => ?_)
        refine lv_goto (tgt := 23) hx hb dX1_decisive_77 (by decide) ?_
        exact ih_23 (i + 1) ls (by omega) (lv_cast (k := [(0, .ref (b 0)), (1, .int (nI (hh_ v))), (2, .int (nI (tt_ v))), (3, .int (nI (ld_ v (hh_ v) (tt_ v) (vs_c v)))), (4, .int (nI ((sm_ (dcf_ v) i) + (dcf_ v i)))), (5, .int (nI (i + 1)))]) (lv_sub hl [2, 3, 4, 5, 1, 0] rfl) (lc_cons rfl (lc_cons rfl (lc_cons rfl (lc_cons rfl (lc_cons (congrArg (fun z : Nat => ((4 : Nat), Value.int (nI z))) (show ((sm_ (dcf_ v) i) + (dcf_ v i) : Nat) = sm_ (dcf_ v) (i + 1) from by first | rfl | omega)) (lc_cons (congrArg (fun z : Nat => ((5 : Nat), Value.int (nI z))) (show (i + 1 : Nat) = (i + 1) from by first | rfl | omega)) rfl)))))))
      · refine lv_iconst (v := nI (1)) hx hb dX1_decisive_66 (by decide) ?_
        refine lv_goto (tgt := 71) hx hb dX1_decisive_67 (by decide) ?_
        refine nv_topi (congrArg nI (show (1 : Nat) = dcf_ v i from by simp [dcf_, c_63])) ?_
        refine nv_iadd hx hb dX1_decisive_71 rfl ?_
        refine lv_istore (lv' := [(4, .int (nI ((sm_ (dcf_ v) i) + (dcf_ v i)))), (0, .ref (b 0)), (1, .int (nI (hh_ v))), (2, .int (nI (tt_ v))), (3, .int (nI (ld_ v (hh_ v) (tt_ v) (vs_c v)))), (5, .int (nI (i)))]) hx hb dX1_decisive_72 hl (by decide) rfl (fun ls hl => ?_)
        refine lv_iinc (v := nI (i + 1)) (lv' := [(5, .int (nI (i + 1))), (4, .int (nI ((sm_ (dcf_ v) i) + (dcf_ v i)))), (0, .ref (b 0)), (1, .int (nI (hh_ v))), (2, .int (nI (tt_ v))), (3, .int (nI (ld_ v (hh_ v) (tt_ v) (vs_c v))))]) hx hb dX1_decisive_74 hl (k := 5) rfl (nI_add _ _) (by decide) rfl (fun ls hl => ?_)
        refine lv_goto (tgt := 23) hx hb dX1_decisive_77 (by decide) ?_
        exact ih_23 (i + 1) ls (by omega) (lv_cast (k := [(0, .ref (b 0)), (1, .int (nI (hh_ v))), (2, .int (nI (tt_ v))), (3, .int (nI (ld_ v (hh_ v) (tt_ v) (vs_c v)))), (4, .int (nI ((sm_ (dcf_ v) i) + (dcf_ v i)))), (5, .int (nI (i + 1)))]) (lv_sub hl [2, 3, 4, 5, 1, 0] rfl) (lc_cons rfl (lc_cons rfl (lc_cons rfl (lc_cons rfl (lc_cons (congrArg (fun z : Nat => ((4 : Nat), Value.int (nI z))) (show ((sm_ (dcf_ v) i) + (dcf_ v i) : Nat) = sm_ (dcf_ v) (i + 1) from by first | rfl | omega)) (lc_cons (congrArg (fun z : Nat => ((5 : Nat), Value.int (nI z))) (show (i + 1 : Nat) = (i + 1) from by first | rfl | omega)) rfl)))))))
