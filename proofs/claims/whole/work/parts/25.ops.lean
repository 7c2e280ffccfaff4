set_option maxHeartbeats 4000000 in
theorem op_addCoin (l : Launch) (hls : l.stackTraces = false) (D : va_G) (κ : Nat → ClassId) (a b : Nat → Nat) (v : VS) (hi : iv_ v) (hap : ap_ a 9) (hbp : ap_ b 4) (o : Nat) (hoa : ¬ xa_ a o) (w : Nat → Int64) (u : Nat) (x : Int32) : ∃ (cd : Nat) (r rb : Int32) (v2 : VS), cd ≤ 3 ∧ Hp l yL_addCoin cL_addCoin 4 [(0, 9, 12, 13), (0, 9, 15, 15)] 8 123 (Ph_ D κ a v (ol_ κ o w) [.ref (a 0), .int x, .ref o]) D κ a o v2 cd (Pl_ D κ o cd (r.toInt64)) ∧ Wr l yX1_addCoin cX1_addCoin 3 (some .int) 1 22 (Pw D (kt_ κ) (mw κ b u v) [.ref (b 0), .int x]) D (mw κ b cd v2) (ma_ b) (some (.int rb)) ∧ (cd = 0 → rb = r) ∧ iv_ v2 := by
  have hv := hi.1
  have hu := hi.2.1
  obtain ⟨hv1, hv2, hv3, hv4, hv5, hv6⟩ := id hv
  cases hx0 : ir_ x 0 10 with
  | false =>
    exact ⟨1, (0 : Int32), (nI (0)), v, by decide, h_addCoin_x1 l D κ a v hv hap hls o hoa w ((0 : Int32).toInt64) (x) (hx0), c_X1_addCoin_x1 l D κ b u v hv hbp (x) (hx0), fun z => absurd z (by decide), hi⟩
  | true =>
    obtain ⟨j, hj0, hj9, rfl⟩ := ir_yes hx0 (by decide)
    clear hx0
    by_cases hz : vs_c v = 8 ∨ 0 < vs_t v
    · exact ⟨2, (0 : Int32), (nI (0)), v, by decide, h_addCoin_x2 l D κ a v hv hap hls o hoa w ((0 : Int32).toInt64) (j) (by omega) (hz), c_X1_addCoin_x2 l D κ b u v hv hbp (j) (by omega) (hz), fun z => absurd z (by decide), hi⟩
    · have hc8 : vs_c v < 8 := by omega
      have h0 : vs_t v = 0 := by omega
      exact ⟨0, (nI (vs_c v)), (nI (vs_c v)), (nx_addCoin v j), by decide, h_addCoin_ok l D κ a v hv hap hls o hoa w (j) (by omega) (by omega) (by omega), c_X1_addCoin_ok l D κ b u v hv hbp (j) (by omega) (by omega) (by omega) (hu), fun _ => rfl, iv_addCoin hi hj9 hc8 h0⟩
set_option maxHeartbeats 4000000 in
theorem op_addSchool (l : Launch) (hls : l.stackTraces = false) (D : va_G) (κ : Nat → ClassId) (a b : Nat → Nat) (v : VS) (hi : iv_ v) (hap : ap_ a 9) (hbp : ap_ b 4) (o : Nat) (hoa : ¬ xa_ a o) (w : Nat → Int64) (u : Nat) (x : Int32) : ∃ (cd : Nat) (r rb : Int32) (v2 : VS), cd ≤ 3 ∧ Hp l yL_addSchool cL_addSchool 4 [(0, 9, 12, 13), (0, 9, 15, 15)] 8 123 (Ph_ D κ a v (ol_ κ o w) [.ref (a 0), .int x, .ref o]) D κ a o v2 cd (Pl_ D κ o cd (r.toInt64)) ∧ Wr l yX1_addSchool cX1_addSchool 3 (some .int) 1 22 (Pw D (kt_ κ) (mw κ b u v) [.ref (b 0), .int x]) D (mw κ b cd v2) (ma_ b) (some (.int rb)) ∧ (cd = 0 → rb = r) ∧ iv_ v2 := by
  have hv := hi.1
  have hu := hi.2.1
  obtain ⟨hv1, hv2, hv3, hv4, hv5, hv6⟩ := id hv
  cases hx0 : ir_ x 1 9 with
  | false =>
    exact ⟨1, (0 : Int32), (nI (0)), v, by decide, h_addSchool_x1 l D κ a v hv hap hls o hoa w ((0 : Int32).toInt64) (x) (hx0), c_X1_addSchool_x1 l D κ b u v hv hbp (x) (hx0), fun z => absurd z (by decide), hi⟩
  | true =>
    obtain ⟨j, hj0, hj9, rfl⟩ := ir_yes hx0 (by decide)
    clear hx0
    by_cases hz : vs_n v = 4 ∨ 0 < vs_t v
    · exact ⟨2, (0 : Int32), (nI (0)), v, by decide, h_addSchool_x2 l D κ a v hv hap hls o hoa w ((0 : Int32).toInt64) (j) (by omega) (by omega) (hz), c_X1_addSchool_x2 l D κ b u v hv hbp (j) (by omega) (by omega) (hz), fun z => absurd z (by decide), hi⟩
    · have hc8 : vs_n v < 4 := by omega
      have h0 : vs_t v = 0 := by omega
      exact ⟨0, (nI (vs_n v)), (nI (vs_n v)), (nx_addSchool v j), by decide, h_addSchool_ok l D κ a v hv hap hls o hoa w (j) (by omega) (by omega) (by omega) (by omega), c_X1_addSchool_ok l D κ b u v hv hbp (j) (by omega) (by omega) (by omega) (by omega) (hu), fun _ => rfl, iv_addSchool hi hj9 hc8 h0⟩
set_option maxHeartbeats 4000000 in
theorem op_setShare (l : Launch) (hls : l.stackTraces = false) (D : va_G) (κ : Nat → ClassId) (a b : Nat → Nat) (v : VS) (hi : iv_ v) (hap : ap_ a 9) (hbp : ap_ b 4) (o : Nat) (hoa : ¬ xa_ a o) (w : Nat → Int64) (u : Nat) (x : Int32) (y : Int32) (z : Int32) : ∃ (cd : Nat) (r rb : Int32) (v2 : VS), cd ≤ 3 ∧ Hp l yL_setShare cL_setShare 6 [(0, 12, 15, 24), (0, 12, 19, 13), (0, 12, 23, 15)] 8 127 (Ph_ D κ a v (ol_ κ o w) [.ref (a 0), .int x, .int y, .int z, .ref o]) D κ a o v2 cd (Pl_ D κ o cd (r.toInt64)) ∧ Wr l yX1_setShare cX1_setShare 5 (some .int) 2 43 (Pw D (kt_ κ) (mw κ b u v) [.ref (b 0), .int x, .int y, .int z]) D (mw κ b cd v2) (ma_ b) (some (.int rb)) ∧ (cd = 0 → rb = r) ∧ iv_ v2 := by
  have hv := hi.1
  have hu := hi.2.1
  obtain ⟨hv1, hv2, hv3, hv4, hv5, hv6⟩ := id hv
  cases hx0 : ix_ x (vs_n v) with
  | false =>
    exact ⟨1, (0 : Int32), (nI (0)), v, by decide, h_setShare_x1 l D κ a v hv hap hls o hoa w ((0 : Int32).toInt64) (x) (y) (z) (hx0), c_X1_setShare_x1 l D κ b u v hv hbp (x) (y) (z) (hx0), fun z => absurd z (by decide), hi⟩
  | true =>
    obtain ⟨j, hj, rfl⟩ := ix_yes hx0 (by omega)
    clear hx0
    cases hx0 : ix_ y (vs_c v) with
    | false =>
      exact ⟨1, (0 : Int32), (nI (0)), v, by decide, h_setShare_x2 l D κ a v hv hap hls o hoa w ((0 : Int32).toInt64) (j) (y) (z) (by omega) (hx0), c_X1_setShare_x2 l D κ b u v hv hbp (j) (y) (z) (by omega) (hx0), fun z => absurd z (by decide), hi⟩
    | true =>
      obtain ⟨k, hk, rfl⟩ := ix_yes hx0 (by omega)
      clear hx0
      cases hx0 : ir_ z 0 9 with
      | false =>
        exact ⟨2, (0 : Int32), (nI (0)), v, by decide, h_setShare_x3 l D κ a v hv hap hls o hoa w ((0 : Int32).toInt64) (j) (k) (z) (by omega) (by omega) (hx0), c_X1_setShare_x3 l D κ b u v hv hbp (j) (k) (z) (by omega) (by omega) (hx0), fun z => absurd z (by decide), hi⟩
      | true =>
        obtain ⟨q, hj0, hj9, rfl⟩ := ir_yes hx0 (by decide)
        clear hx0
        rcases Nat.eq_zero_or_pos (vs_t v) with h0 | hz
        · exact ⟨0, (nI (vs_sh v j k)), (nI (vs_sh v j k)), (nx_setShare v j k q), by decide, h_setShare_ok l D κ a v hv hap hls o hoa w (j) (k) (q) (by omega) (by omega) (by omega) (by omega), c_X1_setShare_ok l D κ b u v hv hbp (j) (k) (q) (by omega) (by omega) (by omega) (by omega), fun _ => rfl, iv_setShare hi hj hk hj9 h0⟩
        · exact ⟨3, (0 : Int32), (nI (0)), v, by decide, h_setShare_x4 l D κ a v hv hap hls o hoa w ((0 : Int32).toInt64) (j) (k) (q) (by omega) (by omega) (by omega) (by omega), c_X1_setShare_x4 l D κ b u v hv hbp (j) (k) (q) (by omega) (by omega) (by omega) (by omega), fun z => absurd z (by decide), hi⟩
set_option maxHeartbeats 4000000 in
theorem op_toss (l : Launch) (hls : l.stackTraces = false) (D : va_G) (κ : Nat → ClassId) (a b : Nat → Nat) (v : VS) (hi : iv_ v) (hap : ap_ a 9) (hbp : ap_ b 4) (o : Nat) (hoa : ¬ xa_ a o) (w : Nat → Int64) (u : Nat) (h_ : Bool) : ∃ (cd : Nat) (r rb : Int32) (v2 : VS), cd ≤ 3 ∧ Hp l yL_toss cL_toss 4 [(0, 9, 12, 15)] 8 130 (Ph_ D κ a v (ol_ κ o w) [.ref (a 0), .int (bI h_), .ref o]) D κ a o v2 cd (Pl_ D κ o cd (r.toInt64)) ∧ Wr l yX1_toss cX1_toss 3 (some .int) 6 146 (Pw D (kt_ κ) (mw κ b u v) [.ref (b 0), .int (bI h_)]) D (mw κ b cd v2) (ma_ b) (some (.int rb)) ∧ (cd = 0 → rb = r) ∧ iv_ v2 := by
  have hv := hi.1
  have hu := hi.2.1
  obtain ⟨hv1, hv2, hv3, hv4, hv5, hv6⟩ := id hv
  by_cases hz : vs_t v = 12 ∨ ch_ v h_ (hh_ v) (tt_ v) = 0
  · exact ⟨1, (0 : Int32), (nI (0)), v, by decide, h_toss_x l D κ a v hv hap hls o hoa w ((0 : Int32).toInt64) (h_) (hz), c_X1_toss_x1 l D κ b u v hv hbp (h_) (hz), fun z => absurd z (by decide), hi⟩
  · have ht12 : vs_t v < 12 := by omega
    have hp : 0 < ch_ v h_ (hh_ v) (tt_ v) := by omega
    exact ⟨0, (nI (su_ v h_ (hh_ v) (tt_ v))), (nI (su_ v h_ (hh_ v) (tt_ v))), (nx_toss v h_), by decide, h_toss_ok l D κ a v hv hap hls o hoa w (h_) (by omega) (hp), c_X1_toss_ok l D κ b u v hv hbp (h_) (by omega) (hp), fun _ => rfl, iv_toss hi ht12 hp⟩
set_option maxHeartbeats 4000000 in
theorem op_undo (l : Launch) (hls : l.stackTraces = false) (D : va_G) (κ : Nat → ClassId) (a b : Nat → Nat) (v : VS) (hi : iv_ v) (hap : ap_ a 9) (hbp : ap_ b 4) (o : Nat) (hoa : ¬ xa_ a o) (w : Nat → Int64) (u : Nat) : ∃ (cd : Nat) (r rb : Bool) (v2 : VS), cd ≤ 3 ∧ Hp l yL_undo cL_undo 3 [(0, 15, 18, 15)] 7 102 (Ph_ D κ a v (ol_ κ o w) [.ref (a 0), .ref o]) D κ a o v2 cd (Pl_ D κ o cd ((bI r).toInt64)) ∧ Wr l yX1_undo cX1_undo 2 (some .boolean) 1 21 (Pw D (kt_ κ) (mw κ b u v) [.ref (b 0)]) D (mw κ b cd v2) (ma_ b) (some (.int (bI rb))) ∧ (cd = 0 → rb = r) ∧ iv_ v2 := by
  have hv := hi.1
  have hu := hi.2.1
  obtain ⟨hv1, hv2, hv3, hv4, hv5, hv6⟩ := id hv
  rcases Nat.eq_zero_or_pos (vs_t v) with hz | h0
  · exact ⟨1, false, false, v, by decide, h_undo_x l D κ a v hv hap hls o hoa w ((bI false).toInt64) (by omega), c_X1_undo_x1 l D κ b u v hv hbp (by omega), fun z => absurd z (by decide), hi⟩
  · exact ⟨0, (vs_th v (vs_t v - 1)), (vs_th v (vs_t v - 1)), (nx_undo v), by decide, h_undo_ok l D κ a v hv hap hls o hoa w (by omega), c_X1_undo_ok l D κ b u v hv hbp (by omega), fun _ => rfl, iv_undo hi h0⟩
set_option maxHeartbeats 4000000 in
theorem op_strike (l : Launch) (hls : l.stackTraces = false) (D : va_G) (κ : Nat → ClassId) (a b : Nat → Nat) (v : VS) (hi : iv_ v) (hap : ap_ a 9) (hbp : ap_ b 4) (o : Nat) (hoa : ¬ xa_ a o) (w : Nat → Int64) (u : Nat) (x : Int32) : ∃ (cd : Nat) (r rb : Int32) (v2 : VS), cd ≤ 3 ∧ Hp l yL_strike cL_strike 4 [(0, 9, 12, 24)] 8 125 (Ph_ D κ a v (ol_ κ o w) [.ref (a 0), .int x, .ref o]) D κ a o v2 cd (Pl_ D κ o cd (r.toInt64)) ∧ Wr l yX1_strike cX1_strike 2 (some .int) 2 43 (Pw D (kt_ κ) (mw κ b u v) [.ref (b 0), .int x]) D (mw κ b cd v2) (ma_ b) (some (.int rb)) ∧ (cd = 0 → rb = r) ∧ iv_ v2 := by
  have hv := hi.1
  have hu := hi.2.1
  obtain ⟨hv1, hv2, hv3, hv4, hv5, hv6⟩ := id hv
  cases hx0 : ix_ x (vs_t v) with
  | false =>
    exact ⟨1, (0 : Int32), (nI (0)), v, by decide, h_strike_x l D κ a v hv hap hls o hoa w ((0 : Int32).toInt64) (x) (hx0), c_X1_strike_x1 l D κ b u v hv hbp (x) (hx0), fun z => absurd z (by decide), hi⟩
  | true =>
    obtain ⟨j, hj, rfl⟩ := ix_yes hx0 (by omega)
    clear hx0
    exact ⟨0, (nI (vs_t v - 1)), (nI (vs_t v - 1)), (nx_strike v j), by decide, h_strike_ok l D κ a v hv hap hls o hoa w (j) (by omega), c_X1_strike_ok l D κ b u v hv hbp (j) (by omega), fun _ => rfl, iv_strike hi hj⟩
set_option maxHeartbeats 4000000 in
theorem op_isHeads (l : Launch) (hls : l.stackTraces = false) (D : va_G) (κ : Nat → ClassId) (a b : Nat → Nat) (v : VS) (hi : iv_ v) (hap : ap_ a 9) (hbp : ap_ b 4) (o : Nat) (hoa : ¬ xa_ a o) (w : Nat → Int64) (u : Nat) (x : Int32) : ∃ (cd : Nat) (r rb : Bool) (v2 : VS), cd ≤ 3 ∧ Hp l yL_isHeads cL_isHeads 4 [(0, 16, 19, 24)] 8 124 (Ph_ D κ a v (ol_ κ o w) [.ref (a 0), .int x, .ref o]) D κ a o v2 cd (Pl_ D κ o cd ((bI r).toInt64)) ∧ Wr l yX1_isHeads cX1_isHeads 2 (some .boolean) 2 43 (Pw D (kt_ κ) (mw κ b u v) [.ref (b 0), .int x]) D (mw κ b cd v2) (ma_ b) (some (.int (bI rb))) ∧ (cd = 0 → rb = r) ∧ iv_ v2 := by
  have hv := hi.1
  have hu := hi.2.1
  obtain ⟨hv1, hv2, hv3, hv4, hv5, hv6⟩ := id hv
  cases hx0 : ix_ x (vs_t v) with
  | false =>
    exact ⟨1, false, false, v, by decide, h_isHeads_x l D κ a v hv hap hls o hoa w ((bI false).toInt64) (x) (hx0), c_X1_isHeads_x1 l D κ b u v hv hbp (x) (hx0), fun z => absurd z (by decide), hi⟩
  | true =>
    obtain ⟨j, hj, rfl⟩ := ix_yes hx0 (by omega)
    clear hx0
    exact ⟨0, (vs_th v j), (vs_th v j), v, by decide, h_isHeads_ok l D κ a v hv hap hls o hoa w (j) (by omega), c_X1_isHeads_ok l D κ b u v hv hbp (j) (by omega), fun _ => rfl, hi⟩
set_option maxHeartbeats 4000000 in
theorem op_tenthsOf (l : Launch) (hls : l.stackTraces = false) (D : va_G) (κ : Nat → ClassId) (a b : Nat → Nat) (v : VS) (hi : iv_ v) (hap : ap_ a 9) (hbp : ap_ b 4) (o : Nat) (hoa : ¬ xa_ a o) (w : Nat → Int64) (u : Nat) (x : Int32) : ∃ (cd : Nat) (r rb : Int32) (v2 : VS), cd ≤ 3 ∧ Hp l yL_tenthsOf cL_tenthsOf 4 [(0, 9, 12, 24)] 8 124 (Ph_ D κ a v (ol_ κ o w) [.ref (a 0), .int x, .ref o]) D κ a o v2 cd (Pl_ D κ o cd (r.toInt64)) ∧ Wr l yX1_tenthsOf cX1_tenthsOf 2 (some .int) 2 43 (Pw D (kt_ κ) (mw κ b u v) [.ref (b 0), .int x]) D (mw κ b cd v2) (ma_ b) (some (.int rb)) ∧ (cd = 0 → rb = r) ∧ iv_ v2 := by
  have hv := hi.1
  have hu := hi.2.1
  obtain ⟨hv1, hv2, hv3, hv4, hv5, hv6⟩ := id hv
  cases hx0 : ix_ x (vs_c v) with
  | false =>
    exact ⟨1, (0 : Int32), (nI (0)), v, by decide, h_tenthsOf_x l D κ a v hv hap hls o hoa w ((0 : Int32).toInt64) (x) (hx0), c_X1_tenthsOf_x1 l D κ b u v hv hbp (x) (hx0), fun z => absurd z (by decide), hi⟩
  | true =>
    obtain ⟨j, hj, rfl⟩ := ix_yes hx0 (by omega)
    clear hx0
    exact ⟨0, (nI (vs_ct v j)), (nI (vs_ct v j)), v, by decide, h_tenthsOf_ok l D κ a v hv hap hls o hoa w (j) (by omega), c_X1_tenthsOf_ok l D κ b u v hv hbp (j) (by omega), fun _ => rfl, hi⟩
set_option maxHeartbeats 4000000 in
theorem op_oddsOf (l : Launch) (hls : l.stackTraces = false) (D : va_G) (κ : Nat → ClassId) (a b : Nat → Nat) (v : VS) (hi : iv_ v) (hap : ap_ a 9) (hbp : ap_ b 4) (o : Nat) (hoa : ¬ xa_ a o) (w : Nat → Int64) (u : Nat) (x : Int32) : ∃ (cd : Nat) (r rb : Int32) (v2 : VS), cd ≤ 3 ∧ Hp l yL_oddsOf cL_oddsOf 4 [(0, 9, 12, 24)] 8 124 (Ph_ D κ a v (ol_ κ o w) [.ref (a 0), .int x, .ref o]) D κ a o v2 cd (Pl_ D κ o cd (r.toInt64)) ∧ Wr l yX1_oddsOf cX1_oddsOf 2 (some .int) 2 43 (Pw D (kt_ κ) (mw κ b u v) [.ref (b 0), .int x]) D (mw κ b cd v2) (ma_ b) (some (.int rb)) ∧ (cd = 0 → rb = r) ∧ iv_ v2 := by
  have hv := hi.1
  have hu := hi.2.1
  obtain ⟨hv1, hv2, hv3, hv4, hv5, hv6⟩ := id hv
  cases hx0 : ix_ x (vs_n v) with
  | false =>
    exact ⟨1, (0 : Int32), (nI (0)), v, by decide, h_oddsOf_x l D κ a v hv hap hls o hoa w ((0 : Int32).toInt64) (x) (hx0), c_X1_oddsOf_x1 l D κ b u v hv hbp (x) (hx0), fun z => absurd z (by decide), hi⟩
  | true =>
    obtain ⟨j, hj, rfl⟩ := ix_yes hx0 (by omega)
    clear hx0
    exact ⟨0, (nI (vs_so v j)), (nI (vs_so v j)), v, by decide, h_oddsOf_ok l D κ a v hv hap hls o hoa w (j) (by omega), c_X1_oddsOf_ok l D κ b u v hv hbp (j) (by omega), fun _ => rfl, hi⟩
set_option maxHeartbeats 4000000 in
theorem op_shareOf (l : Launch) (hls : l.stackTraces = false) (D : va_G) (κ : Nat → ClassId) (a b : Nat → Nat) (v : VS) (hi : iv_ v) (hap : ap_ a 9) (hbp : ap_ b 4) (o : Nat) (hoa : ¬ xa_ a o) (w : Nat → Int64) (u : Nat) (x : Int32) (y : Int32) : ∃ (cd : Nat) (r rb : Int32) (v2 : VS), cd ≤ 3 ∧ Hp l yL_shareOf cL_shareOf 5 [(0, 10, 13, 24)] 8 125 (Ph_ D κ a v (ol_ κ o w) [.ref (a 0), .int x, .int y, .ref o]) D κ a o v2 cd (Pl_ D κ o cd (r.toInt64)) ∧ Wr l yX1_shareOf cX1_shareOf 3 (some .int) 2 43 (Pw D (kt_ κ) (mw κ b u v) [.ref (b 0), .int x, .int y]) D (mw κ b cd v2) (ma_ b) (some (.int rb)) ∧ (cd = 0 → rb = r) ∧ iv_ v2 := by
  have hv := hi.1
  have hu := hi.2.1
  obtain ⟨hv1, hv2, hv3, hv4, hv5, hv6⟩ := id hv
  cases hx0 : ix_ x (vs_n v) with
  | false =>
    exact ⟨1, (0 : Int32), (nI (0)), v, by decide, h_shareOf_x1 l D κ a v hv hap hls o hoa w ((0 : Int32).toInt64) (x) (y) (hx0), c_X1_shareOf_x1 l D κ b u v hv hbp (x) (y) (hx0), fun z => absurd z (by decide), hi⟩
  | true =>
    obtain ⟨j, hj, rfl⟩ := ix_yes hx0 (by omega)
    clear hx0
    cases hx0 : ix_ y (vs_c v) with
    | false =>
      exact ⟨1, (0 : Int32), (nI (0)), v, by decide, h_shareOf_x2 l D κ a v hv hap hls o hoa w ((0 : Int32).toInt64) (j) (y) (by omega) (hx0), c_X1_shareOf_x2 l D κ b u v hv hbp (j) (y) (by omega) (hx0), fun z => absurd z (by decide), hi⟩
    | true =>
      obtain ⟨k, hk, rfl⟩ := ix_yes hx0 (by omega)
      clear hx0
      exact ⟨0, (nI (vs_sh v j k)), (nI (vs_sh v j k)), v, by decide, h_shareOf_ok l D κ a v hv hap hls o hoa w (j) (k) (by omega) (by omega), c_X1_shareOf_ok l D κ b u v hv hbp (j) (k) (by omega) (by omega), fun _ => rfl, hi⟩
set_option maxHeartbeats 4000000 in
theorem op_weightOf (l : Launch) (hls : l.stackTraces = false) (D : va_G) (κ : Nat → ClassId) (a b : Nat → Nat) (v : VS) (hi : iv_ v) (hap : ap_ a 9) (hbp : ap_ b 4) (o : Nat) (hoa : ¬ xa_ a o) (w : Nat → Int64) (u : Nat) (x : Int32) (y : Int32) : ∃ (cd : Nat) (r rb : Int64) (v2 : VS), cd ≤ 3 ∧ Hp l yL_weightOf cL_weightOf 5 [(0, 9, 12, 24)] 8 125 (Ph_ D κ a v (ol_ κ o w) [.ref (a 0), .int x, .int y, .ref o]) D κ a o v2 cd (Pl_ D κ o cd (r)) ∧ Wr l yX1_weightOf cX1_weightOf 3 (some .long) 3 69 (Pw D (kt_ κ) (mw κ b u v) [.ref (b 0), .int x, .int y]) D (mw κ b cd v2) (ma_ b) (some (.long rb)) ∧ (cd = 0 → rb = r) ∧ iv_ v2 := by
  have hv := hi.1
  have hu := hi.2.1
  obtain ⟨hv1, hv2, hv3, hv4, hv5, hv6⟩ := id hv
  cases hx0 : ix_ x (vs_n v) with
  | false =>
    exact ⟨1, (0 : Int64), (lN (0)), v, by decide, h_weightOf_x1 l D κ a v hv hap hls o hoa w ((0 : Int64)) (x) (y) (hx0), c_X1_weightOf_x1 l D κ b u v hv hbp (x) (y) (hx0), fun z => absurd z (by decide), hi⟩
  | true =>
    obtain ⟨j, hj, rfl⟩ := ix_yes hx0 (by omega)
    clear hx0
    cases hx0 : ix_ y (vs_c v) with
    | false =>
      exact ⟨1, (0 : Int64), (lN (0)), v, by decide, h_weightOf_x2 l D κ a v hv hap hls o hoa w ((0 : Int64)) (j) (y) (by omega) (hx0), c_X1_weightOf_x2 l D κ b u v hv hbp (j) (y) (by omega) (hx0), fun z => absurd z (by decide), hi⟩
    | true =>
      obtain ⟨k, hk, rfl⟩ := ix_yes hx0 (by omega)
      clear hx0
      exact ⟨0, (lN (pr_ v j k (hh_ v) (tt_ v))), (lN (pr_ v j k (hh_ v) (tt_ v))), v, by decide, h_weightOf_ok l D κ a v hv hap hls o hoa w (j) (k) (by omega) (by omega), c_X1_weightOf_ok l D κ b u v hv hbp (j) (k) (by omega) (by omega), fun _ => rfl, hi⟩
set_option maxHeartbeats 4000000 in
theorem op_coinWeight (l : Launch) (hls : l.stackTraces = false) (D : va_G) (κ : Nat → ClassId) (a b : Nat → Nat) (v : VS) (hi : iv_ v) (hap : ap_ a 9) (hbp : ap_ b 4) (o : Nat) (hoa : ¬ xa_ a o) (w : Nat → Int64) (u : Nat) (x : Int32) : ∃ (cd : Nat) (r rb : Int64) (v2 : VS), cd ≤ 3 ∧ Hp l yL_coinWeight cL_coinWeight 4 [(0, 8, 11, 24)] 8 124 (Ph_ D κ a v (ol_ κ o w) [.ref (a 0), .int x, .ref o]) D κ a o v2 cd (Pl_ D κ o cd (r)) ∧ Wr l yX1_coinWeight cX1_coinWeight 2 (some .long) 4 91 (Pw D (kt_ κ) (mw κ b u v) [.ref (b 0), .int x]) D (mw κ b cd v2) (ma_ b) (some (.long rb)) ∧ (cd = 0 → rb = r) ∧ iv_ v2 := by
  have hv := hi.1
  have hu := hi.2.1
  obtain ⟨hv1, hv2, hv3, hv4, hv5, hv6⟩ := id hv
  cases hx0 : ix_ x (vs_c v) with
  | false =>
    exact ⟨1, (0 : Int64), (lN (0)), v, by decide, h_coinWeight_x l D κ a v hv hap hls o hoa w ((0 : Int64)) (x) (hx0), c_X1_coinWeight_x1 l D κ b u v hv hbp (x) (hx0), fun z => absurd z (by decide), hi⟩
  | true =>
    obtain ⟨j, hj, rfl⟩ := ix_yes hx0 (by omega)
    clear hx0
    exact ⟨0, (lN (wt_ v j (hh_ v) (tt_ v))), (lN (wt_ v j (hh_ v) (tt_ v))), v, by decide, h_coinWeight_ok l D κ a v hv hap hls o hoa w (j) (by omega), c_X1_coinWeight_ok l D κ b u v hv hbp (j) (by omega), fun _ => rfl, hi⟩
set_option maxHeartbeats 4000000 in
theorem op_schoolWeight (l : Launch) (hls : l.stackTraces = false) (D : va_G) (κ : Nat → ClassId) (a b : Nat → Nat) (v : VS) (hi : iv_ v) (hap : ap_ a 9) (hbp : ap_ b 4) (o : Nat) (hoa : ¬ xa_ a o) (w : Nat → Int64) (u : Nat) (x : Int32) : ∃ (cd : Nat) (r rb : Int64) (v2 : VS), cd ≤ 3 ∧ Hp l yL_schoolWeight cL_schoolWeight 4 [(0, 8, 11, 24)] 8 124 (Ph_ D κ a v (ol_ κ o w) [.ref (a 0), .int x, .ref o]) D κ a o v2 cd (Pl_ D κ o cd (r)) ∧ Wr l yX1_schoolWeight cX1_schoolWeight 2 (some .long) 4 93 (Pw D (kt_ κ) (mw κ b u v) [.ref (b 0), .int x]) D (mw κ b cd v2) (ma_ b) (some (.long rb)) ∧ (cd = 0 → rb = r) ∧ iv_ v2 := by
  have hv := hi.1
  have hu := hi.2.1
  obtain ⟨hv1, hv2, hv3, hv4, hv5, hv6⟩ := id hv
  cases hx0 : ix_ x (vs_n v) with
  | false =>
    exact ⟨1, (0 : Int64), (lN (0)), v, by decide, h_schoolWeight_x l D κ a v hv hap hls o hoa w ((0 : Int64)) (x) (hx0), c_X1_schoolWeight_x1 l D κ b u v hv hbp (x) (hx0), fun z => absurd z (by decide), hi⟩
  | true =>
    obtain ⟨j, hj, rfl⟩ := ix_yes hx0 (by omega)
    clear hx0
    exact ⟨0, (lN (sc_ v j (hh_ v) (tt_ v))), (lN (sc_ v j (hh_ v) (tt_ v))), v, by decide, h_schoolWeight_ok l D κ a v hv hap hls o hoa w (j) (by omega), c_X1_schoolWeight_ok l D κ b u v hv hbp (j) (by omega), fun _ => rfl, hi⟩
set_option maxHeartbeats 4000000 in
theorem op_isRuledOut (l : Launch) (hls : l.stackTraces = false) (D : va_G) (κ : Nat → ClassId) (a b : Nat → Nat) (v : VS) (hi : iv_ v) (hap : ap_ a 9) (hbp : ap_ b 4) (o : Nat) (hoa : ¬ xa_ a o) (w : Nat → Int64) (u : Nat) (x : Int32) : ∃ (cd : Nat) (r rb : Bool) (v2 : VS), cd ≤ 3 ∧ Hp l yL_isRuledOut cL_isRuledOut 4 [(0, 16, 19, 24)] 8 124 (Ph_ D κ a v (ol_ κ o w) [.ref (a 0), .int x, .ref o]) D κ a o v2 cd (Pl_ D κ o cd ((bI r).toInt64)) ∧ Wr l yX1_isRuledOut cX1_isRuledOut 2 (some .boolean) 4 91 (Pw D (kt_ κ) (mw κ b u v) [.ref (b 0), .int x]) D (mw κ b cd v2) (ma_ b) (some (.int (bI rb))) ∧ (cd = 0 → rb = r) ∧ iv_ v2 := by
  have hv := hi.1
  have hu := hi.2.1
  obtain ⟨hv1, hv2, hv3, hv4, hv5, hv6⟩ := id hv
  cases hx0 : ix_ x (vs_c v) with
  | false =>
    exact ⟨1, false, false, v, by decide, h_isRuledOut_x l D κ a v hv hap hls o hoa w ((bI false).toInt64) (x) (hx0), c_X1_isRuledOut_x1 l D κ b u v hv hbp (x) (hx0), fun z => absurd z (by decide), hi⟩
  | true =>
    obtain ⟨j, hj, rfl⟩ := ix_yes hx0 (by omega)
    clear hx0
    exact ⟨0, (decide (wt_ v j (hh_ v) (tt_ v) = 0)), (decide (wt_ v j (hh_ v) (tt_ v) = 0)), v, by decide, h_isRuledOut_ok l D κ a v hv hap hls o hoa w (j) (by omega), c_X1_isRuledOut_ok l D κ b u v hv hbp (j) (by omega), fun _ => rfl, hi⟩
set_option maxHeartbeats 4000000 in
theorem op_coinPercent (l : Launch) (hls : l.stackTraces = false) (D : va_G) (κ : Nat → ClassId) (a b : Nat → Nat) (v : VS) (hi : iv_ v) (hap : ap_ a 9) (hbp : ap_ b 4) (o : Nat) (hoa : ¬ xa_ a o) (w : Nat → Int64) (u : Nat) (x : Int32) : ∃ (cd : Nat) (r rb : Int32) (v2 : VS), cd ≤ 3 ∧ Hp l yL_coinPercent cL_coinPercent 4 [(0, 9, 12, 24), (0, 9, 15, 15)] 8 126 (Ph_ D κ a v (ol_ κ o w) [.ref (a 0), .int x, .ref o]) D κ a o v2 cd (Pl_ D κ o cd (r.toInt64)) ∧ Wr l yX1_coinPercent cX1_coinPercent 2 (some .int) 5 115 (Pw D (kt_ κ) (mw κ b u v) [.ref (b 0), .int x]) D (mw κ b cd v2) (ma_ b) (some (.int rb)) ∧ (cd = 0 → rb = r) ∧ iv_ v2 := by
  have hv := hi.1
  have hu := hi.2.1
  obtain ⟨hv1, hv2, hv3, hv4, hv5, hv6⟩ := id hv
  cases hx0 : ix_ x (vs_c v) with
  | false =>
    exact ⟨1, (0 : Int32), (nI (0)), v, by decide, h_coinPercent_x1 l D κ a v hv hap hls o hoa w ((0 : Int32).toInt64) (x) (hx0), c_X1_coinPercent_x1 l D κ b u v hv hbp (x) (hx0), fun z => absurd z (by decide), hi⟩
  | true =>
    obtain ⟨j, hj, rfl⟩ := ix_yes hx0 (by omega)
    clear hx0
    rcases Nat.eq_zero_or_pos (wl_ v (hh_ v) (tt_ v)) with hw0 | hw
    · exact ⟨2, (0 : Int32), (nI (0)), v, by decide, h_coinPercent_x2 l D κ a v hv hap hls o hoa w ((0 : Int32).toInt64) (j) (by omega) (hw0), c_X1_coinPercent_x2 l D κ b u v hv hbp (j) (by omega) (hw0), fun z => absurd z (by decide), hi⟩
    · exact ⟨0, (nI (wt_ v j (hh_ v) (tt_ v) * 100 / wl_ v (hh_ v) (tt_ v))), (nI (wt_ v j (hh_ v) (tt_ v) * 100 / wl_ v (hh_ v) (tt_ v))), v, by decide, h_coinPercent_ok l D κ a v hv hap hls o hoa w (j) (by omega) (hw), c_X1_coinPercent_ok l D κ b u v hv hbp (j) (by omega) (hw), fun _ => rfl, hi⟩
set_option maxHeartbeats 4000000 in
theorem op_schoolPercent (l : Launch) (hls : l.stackTraces = false) (D : va_G) (κ : Nat → ClassId) (a b : Nat → Nat) (v : VS) (hi : iv_ v) (hap : ap_ a 9) (hbp : ap_ b 4) (o : Nat) (hoa : ¬ xa_ a o) (w : Nat → Int64) (u : Nat) (x : Int32) : ∃ (cd : Nat) (r rb : Int32) (v2 : VS), cd ≤ 3 ∧ Hp l yL_schoolPercent cL_schoolPercent 4 [(0, 9, 12, 24), (0, 9, 15, 15)] 8 126 (Ph_ D κ a v (ol_ κ o w) [.ref (a 0), .int x, .ref o]) D κ a o v2 cd (Pl_ D κ o cd (r.toInt64)) ∧ Wr l yX1_schoolPercent cX1_schoolPercent 2 (some .int) 5 115 (Pw D (kt_ κ) (mw κ b u v) [.ref (b 0), .int x]) D (mw κ b cd v2) (ma_ b) (some (.int rb)) ∧ (cd = 0 → rb = r) ∧ iv_ v2 := by
  have hv := hi.1
  have hu := hi.2.1
  obtain ⟨hv1, hv2, hv3, hv4, hv5, hv6⟩ := id hv
  cases hx0 : ix_ x (vs_n v) with
  | false =>
    exact ⟨1, (0 : Int32), (nI (0)), v, by decide, h_schoolPercent_x1 l D κ a v hv hap hls o hoa w ((0 : Int32).toInt64) (x) (hx0), c_X1_schoolPercent_x1 l D κ b u v hv hbp (x) (hx0), fun z => absurd z (by decide), hi⟩
  | true =>
    obtain ⟨j, hj, rfl⟩ := ix_yes hx0 (by omega)
    clear hx0
    rcases Nat.eq_zero_or_pos (wl_ v (hh_ v) (tt_ v)) with hw0 | hw
    · exact ⟨2, (0 : Int32), (nI (0)), v, by decide, h_schoolPercent_x2 l D κ a v hv hap hls o hoa w ((0 : Int32).toInt64) (j) (by omega) (hw0), c_X1_schoolPercent_x2 l D κ b u v hv hbp (j) (by omega) (hw0), fun z => absurd z (by decide), hi⟩
    · exact ⟨0, (nI (sc_ v j (hh_ v) (tt_ v) * 100 / wl_ v (hh_ v) (tt_ v))), (nI (sc_ v j (hh_ v) (tt_ v) * 100 / wl_ v (hh_ v) (tt_ v))), v, by decide, h_schoolPercent_ok l D κ a v hv hap hls o hoa w (j) (by omega) (hw), c_X1_schoolPercent_ok l D κ b u v hv hbp (j) (by omega) (hw), fun _ => rfl, hi⟩
set_option maxHeartbeats 4000000 in
theorem op_leadingCoin (l : Launch) (hls : l.stackTraces = false) (D : va_G) (κ : Nat → ClassId) (a b : Nat → Nat) (v : VS) (hi : iv_ v) (hap : ap_ a 9) (hbp : ap_ b 4) (o : Nat) (hoa : ¬ xa_ a o) (w : Nat → Int64) (u : Nat) : ∃ (cd : Nat) (r rb : Int32) (v2 : VS), cd ≤ 3 ∧ Hp l yL_leadingCoin cL_leadingCoin 3 [(0, 8, 11, 15)] 7 103 (Ph_ D κ a v (ol_ κ o w) [.ref (a 0), .ref o]) D κ a o v2 cd (Pl_ D κ o cd (r.toInt64)) ∧ Wr l yX1_leadingCoin cX1_leadingCoin 1 (some .int) 5 115 (Pw D (kt_ κ) (mw κ b u v) [.ref (b 0)]) D (mw κ b cd v2) (ma_ b) (some (.int rb)) ∧ (cd = 0 → rb = r) ∧ iv_ v2 := by
  have hv := hi.1
  have hu := hi.2.1
  obtain ⟨hv1, hv2, hv3, hv4, hv5, hv6⟩ := id hv
  rcases Nat.eq_zero_or_pos (wl_ v (hh_ v) (tt_ v)) with hw0 | hw
  · exact ⟨1, (0 : Int32), (nI (0)), v, by decide, h_leadingCoin_x l D κ a v hv hap hls o hoa w ((0 : Int32).toInt64) (hw0), c_X1_leadingCoin_x1 l D κ b u v hv hbp (hw0), fun z => absurd z (by decide), hi⟩
  · exact ⟨0, (nI (ld_ v (hh_ v) (tt_ v) (vs_c v))), (nI (ld_ v (hh_ v) (tt_ v) (vs_c v))), v, by decide, h_leadingCoin_ok l D κ a v hv hap hls o hoa w (hw), c_X1_leadingCoin_ok l D κ b u v hv hbp (hw), fun _ => rfl, hi⟩
set_option maxHeartbeats 4000000 in
theorem op_leadingSchool (l : Launch) (hls : l.stackTraces = false) (D : va_G) (κ : Nat → ClassId) (a b : Nat → Nat) (v : VS) (hi : iv_ v) (hap : ap_ a 9) (hbp : ap_ b 4) (o : Nat) (hoa : ¬ xa_ a o) (w : Nat → Int64) (u : Nat) : ∃ (cd : Nat) (r rb : Int32) (v2 : VS), cd ≤ 3 ∧ Hp l yL_leadingSchool cL_leadingSchool 3 [(0, 8, 11, 15)] 7 108 (Ph_ D κ a v (ol_ κ o w) [.ref (a 0), .ref o]) D κ a o v2 cd (Pl_ D κ o cd (r.toInt64)) ∧ Wr l yX1_leadingSchool cX1_leadingSchool 3 (some .int) 5 115 (Pw D (kt_ κ) (mw κ b u v) [.ref (b 0)]) D (mw κ b cd v2) (ma_ b) (some (.int rb)) ∧ (cd = 0 → rb = r) ∧ iv_ v2 := by
  have hv := hi.1
  have hu := hi.2.1
  obtain ⟨hv1, hv2, hv3, hv4, hv5, hv6⟩ := id hv
  rcases Nat.eq_zero_or_pos (wl_ v (hh_ v) (tt_ v)) with hw0 | hw
  · exact ⟨1, (0 : Int32), (nI (0)), v, by decide, h_leadingSchool_x l D κ a v hv hap hls o hoa w ((0 : Int32).toInt64) (hw0), c_X1_leadingSchool_x1 l D κ b u v hv hbp (hw0), fun z => absurd z (by decide), hi⟩
  · exact ⟨0, (nI (lsc_ v (hh_ v) (tt_ v) (vs_n v))), (nI (lsc_ v (hh_ v) (tt_ v) (vs_n v))), v, by decide, h_leadingSchool_ok l D κ a v hv hap hls o hoa w (hw), c_X1_leadingSchool_ok l D κ b u v hv hbp (hw), fun _ => rfl, hi⟩
set_option maxHeartbeats 4000000 in
theorem op_oddsAgainst (l : Launch) (hls : l.stackTraces = false) (D : va_G) (κ : Nat → ClassId) (a b : Nat → Nat) (v : VS) (hi : iv_ v) (hap : ap_ a 9) (hbp : ap_ b 4) (o : Nat) (hoa : ¬ xa_ a o) (w : Nat → Int64) (u : Nat) (x : Int32) (y : Int32) : ∃ (cd : Nat) (r rb : Int64) (v2 : VS), cd ≤ 3 ∧ Hp l yL_oddsAgainst cL_oddsAgainst 5 [(0, 9, 12, 24), (0, 9, 16, 15)] 8 129 (Ph_ D κ a v (ol_ κ o w) [.ref (a 0), .int x, .int y, .ref o]) D κ a o v2 cd (Pl_ D κ o cd (r)) ∧ Wr l yX1_oddsAgainst cX1_oddsAgainst 3 (some .long) 4 91 (Pw D (kt_ κ) (mw κ b u v) [.ref (b 0), .int x, .int y]) D (mw κ b cd v2) (ma_ b) (some (.long rb)) ∧ (cd = 0 → rb = r) ∧ iv_ v2 := by
  have hv := hi.1
  have hu := hi.2.1
  obtain ⟨hv1, hv2, hv3, hv4, hv5, hv6⟩ := id hv
  cases hx0 : ix_ x (vs_c v) with
  | false =>
    exact ⟨1, (0 : Int64), (lN (0)), v, by decide, h_oddsAgainst_x1 l D κ a v hv hap hls o hoa w ((0 : Int64)) (x) (y) (hx0), c_X1_oddsAgainst_x1 l D κ b u v hv hbp (x) (y) (hx0), fun z => absurd z (by decide), hi⟩
  | true =>
    obtain ⟨j, hj, rfl⟩ := ix_yes hx0 (by omega)
    clear hx0
    cases hx0 : ix_ y (vs_c v) with
    | false =>
      exact ⟨1, (0 : Int64), (lN (0)), v, by decide, h_oddsAgainst_x2 l D κ a v hv hap hls o hoa w ((0 : Int64)) (j) (y) (by omega) (hx0), c_X1_oddsAgainst_x2 l D κ b u v hv hbp (j) (y) (by omega) (hx0), fun z => absurd z (by decide), hi⟩
    | true =>
      obtain ⟨k, hk, rfl⟩ := ix_yes hx0 (by omega)
      clear hx0
      rcases Nat.eq_zero_or_pos (wt_ v k (hh_ v) (tt_ v)) with hz | hz
      · exact ⟨2, (0 : Int64), (lN (0)), v, by decide, h_oddsAgainst_x3 l D κ a v hv hap hls o hoa w ((0 : Int64)) (j) (k) (by omega) (by omega) (hz), c_X1_oddsAgainst_x3 l D κ b u v hv hbp (j) (k) (by omega) (by omega) (hz), fun z => absurd z (by decide), hi⟩
      · exact ⟨0, (lN (wt_ v j (hh_ v) (tt_ v) / wt_ v k (hh_ v) (tt_ v))), (lN (wt_ v j (hh_ v) (tt_ v) / wt_ v k (hh_ v) (tt_ v))), v, by decide, h_oddsAgainst_ok l D κ a v hv hap hls o hoa w (j) (k) (by omega) (by omega) (hz), c_X1_oddsAgainst_ok l D κ b u v hv hbp (j) (k) (by omega) (by omega) (hz), fun _ => rfl, hi⟩
set_option maxHeartbeats 4000000 in
theorem op_surpriseOf (l : Launch) (hls : l.stackTraces = false) (D : va_G) (κ : Nat → ClassId) (a b : Nat → Nat) (v : VS) (hi : iv_ v) (hap : ap_ a 9) (hbp : ap_ b 4) (o : Nat) (hoa : ¬ xa_ a o) (w : Nat → Int64) (u : Nat) (x : Int32) : ∃ (cd : Nat) (r rb : Int32) (v2 : VS), cd ≤ 3 ∧ Hp l yL_surpriseOf cL_surpriseOf 4 [(0, 9, 12, 24)] 8 151 (Ph_ D κ a v (ol_ κ o w) [.ref (a 0), .int x, .ref o]) D κ a o v2 cd (Pl_ D κ o cd (r.toInt64)) ∧ Wr l yX1_surpriseOf cX1_surpriseOf 2 (some .int) 7 168 (Pw D (kt_ κ) (mw κ b u v) [.ref (b 0), .int x]) D (mw κ b cd v2) (ma_ b) (some (.int rb)) ∧ (cd = 0 → rb = r) ∧ iv_ v2 := by
  have hv := hi.1
  have hu := hi.2.1
  obtain ⟨hv1, hv2, hv3, hv4, hv5, hv6⟩ := id hv
  cases hx0 : ix_ x (vs_t v) with
  | false =>
    exact ⟨1, (0 : Int32), (nI (0)), v, by decide, h_surpriseOf_x l D κ a v hv hap hls o hoa w ((0 : Int32).toInt64) (x) (hx0), c_X1_surpriseOf_x1 l D κ b u v hv hbp (x) (hx0), fun z => absurd z (by decide), hi⟩
  | true =>
    obtain ⟨j, hj, rfl⟩ := ix_yes hx0 (by omega)
    clear hx0
    have hp := pp_of hi j hj
    exact ⟨0, (nI (sa_ v j)), (nI (sa_ v j)), v, by decide, h_surpriseOf_ok l D κ a v hv hap hls o hoa w (j) (by omega), c_X1_surpriseOf_ok l D κ b u v hv hbp (j) (by omega) (hp), fun _ => rfl, hi⟩
set_option maxHeartbeats 4000000 in
theorem op_headsPercent (l : Launch) (hls : l.stackTraces = false) (D : va_G) (κ : Nat → ClassId) (a b : Nat → Nat) (v : VS) (hi : iv_ v) (hap : ap_ a 9) (hbp : ap_ b 4) (o : Nat) (hoa : ¬ xa_ a o) (w : Nat → Int64) (u : Nat) : ∃ (cd : Nat) (r rb : Int32) (v2 : VS), cd ≤ 3 ∧ Hp l yL_headsPercent cL_headsPercent 3 [(0, 8, 11, 15)] 8 129 (Ph_ D κ a v (ol_ κ o w) [.ref (a 0), .ref o]) D κ a o v2 cd (Pl_ D κ o cd (r.toInt64)) ∧ Wr l yX1_headsPercent cX1_headsPercent 3 (some .int) 5 118 (Pw D (kt_ κ) (mw κ b u v) [.ref (b 0)]) D (mw κ b cd v2) (ma_ b) (some (.int rb)) ∧ (cd = 0 → rb = r) ∧ iv_ v2 := by
  have hv := hi.1
  have hu := hi.2.1
  obtain ⟨hv1, hv2, hv3, hv4, hv5, hv6⟩ := id hv
  rcases Nat.eq_zero_or_pos (wl_ v (hh_ v) (tt_ v)) with hw0 | hw
  · exact ⟨1, (0 : Int32), (nI (0)), v, by decide, h_headsPercent_x l D κ a v hv hap hls o hoa w ((0 : Int32).toInt64) (hw0), c_X1_headsPercent_x1 l D κ b u v hv hbp (hw0), fun z => absurd z (by decide), hi⟩
  · exact ⟨0, (nI (ch_ v true (hh_ v) (tt_ v) * 100 / (10 * wl_ v (hh_ v) (tt_ v)))), (nI (ch_ v true (hh_ v) (tt_ v) * 100 / (10 * wl_ v (hh_ v) (tt_ v)))), v, by decide, h_headsPercent_ok l D κ a v hv hap hls o hoa w (hw), c_X1_headsPercent_ok l D κ b u v hv hbp (hw), fun _ => rfl, hi⟩
set_option maxHeartbeats 4000000 in
theorem op_wouldSurprise (l : Launch) (hls : l.stackTraces = false) (D : va_G) (κ : Nat → ClassId) (a b : Nat → Nat) (v : VS) (hi : iv_ v) (hap : ap_ a 9) (hbp : ap_ b 4) (o : Nat) (hoa : ¬ xa_ a o) (w : Nat → Int64) (u : Nat) (h_ : Bool) : ∃ (cd : Nat) (r rb : Int32) (v2 : VS), cd ≤ 3 ∧ Hp l yL_wouldSurprise cL_wouldSurprise 4 [(0, 9, 12, 15)] 8 129 (Ph_ D κ a v (ol_ κ o w) [.ref (a 0), .int (bI h_), .ref o]) D κ a o v2 cd (Pl_ D κ o cd (r.toInt64)) ∧ Wr l yX1_wouldSurprise cX1_wouldSurprise 2 (some .int) 6 146 (Pw D (kt_ κ) (mw κ b u v) [.ref (b 0), .int (bI h_)]) D (mw κ b cd v2) (ma_ b) (some (.int rb)) ∧ (cd = 0 → rb = r) ∧ iv_ v2 := by
  have hv := hi.1
  have hu := hi.2.1
  obtain ⟨hv1, hv2, hv3, hv4, hv5, hv6⟩ := id hv
  rcases Nat.eq_zero_or_pos (ch_ v h_ (hh_ v) (tt_ v)) with hp0 | hp
  · exact ⟨1, (0 : Int32), (nI (0)), v, by decide, h_wouldSurprise_x l D κ a v hv hap hls o hoa w ((0 : Int32).toInt64) (h_) (hp0), c_X1_wouldSurprise_x1 l D κ b u v hv hbp (h_) (hp0), fun z => absurd z (by decide), hi⟩
  · exact ⟨0, (nI (su_ v h_ (hh_ v) (tt_ v))), (nI (su_ v h_ (hh_ v) (tt_ v))), v, by decide, h_wouldSurprise_ok l D κ a v hv hap hls o hoa w (h_) (hp), c_X1_wouldSurprise_ok l D κ b u v hv hbp (h_) (hp), fun _ => rfl, hi⟩
set_option maxHeartbeats 4000000 in
theorem op_leaderBehind (l : Launch) (hls : l.stackTraces = false) (D : va_G) (κ : Nat → ClassId) (a b : Nat → Nat) (v : VS) (hi : iv_ v) (hap : ap_ a 9) (hbp : ap_ b 4) (o : Nat) (hoa : ¬ xa_ a o) (w : Nat → Int64) (u : Nat) (h_ : Bool) : ∃ (cd : Nat) (r rb : Int32) (v2 : VS), cd ≤ 3 ∧ Hp l yL_leaderBehind cL_leaderBehind 4 [(0, 9, 12, 15)] 8 124 (Ph_ D κ a v (ol_ κ o w) [.ref (a 0), .int (bI h_), .ref o]) D κ a o v2 cd (Pl_ D κ o cd (r.toInt64)) ∧ Wr l yX1_leaderBehind cX1_leaderBehind 3 (some .int) 6 139 (Pw D (kt_ κ) (mw κ b u v) [.ref (b 0), .int (bI h_)]) D (mw κ b cd v2) (ma_ b) (some (.int rb)) ∧ (cd = 0 → rb = r) ∧ iv_ v2 := by
  have hv := hi.1
  have hu := hi.2.1
  obtain ⟨hv1, hv2, hv3, hv4, hv5, hv6⟩ := id hv
  rcases Nat.eq_zero_or_pos (ch_ v h_ (hh_ v) (tt_ v)) with hp0 | hp
  · exact ⟨1, (0 : Int32), (nI (0)), v, by decide, h_leaderBehind_x l D κ a v hv hap hls o hoa w ((0 : Int32).toInt64) (h_) (hp0), c_X1_leaderBehind_x1 l D κ b u v hv hbp (h_) (hp0), fun z => absurd z (by decide), hi⟩
  · exact ⟨0, (nI (lb_ v h_)), (nI (lb_ v h_)), v, by decide, h_leaderBehind_ok l D κ a v hv hap hls o hoa w (h_) (hp), c_X1_leaderBehind_ok l D κ b u v hv hbp (h_) (hp), fun _ => rfl, hi⟩
set_option maxHeartbeats 4000000 in
theorem op_tossesToLead (l : Launch) (hls : l.stackTraces = false) (D : va_G) (κ : Nat → ClassId) (a b : Nat → Nat) (v : VS) (hi : iv_ v) (hap : ap_ a 9) (hbp : ap_ b 4) (o : Nat) (hoa : ¬ xa_ a o) (w : Nat → Int64) (u : Nat) (x : Int32) : ∃ (cd : Nat) (r rb : Int32) (v2 : VS), cd ≤ 3 ∧ Hp l yL_tossesToLead cL_tossesToLead 4 [(0, 9, 12, 24)] 8 127 (Ph_ D κ a v (ol_ κ o w) [.ref (a 0), .int x, .ref o]) D κ a o v2 cd (Pl_ D κ o cd (r.toInt64)) ∧ Wr l yX1_tossesToLead cX1_tossesToLead 2 (some .int) 6 141 (Pw D (kt_ κ) (mw κ b u v) [.ref (b 0), .int x]) D (mw κ b cd v2) (ma_ b) (some (.int rb)) ∧ (cd = 0 → rb = r) ∧ iv_ v2 := by
  have hv := hi.1
  have hu := hi.2.1
  obtain ⟨hv1, hv2, hv3, hv4, hv5, hv6⟩ := id hv
  cases hx0 : ix_ x (vs_c v) with
  | false =>
    exact ⟨1, (0 : Int32), (nI (0)), v, by decide, h_tossesToLead_x l D κ a v hv hap hls o hoa w ((0 : Int32).toInt64) (x) (hx0), c_X1_tossesToLead_x1 l D κ b u v hv hbp (x) (hx0), fun z => absurd z (by decide), hi⟩
  | true =>
    obtain ⟨j, hj, rfl⟩ := ix_yes hx0 (by omega)
    clear hx0
    exact ⟨0, (tl_ v j), (tl_ v j), v, by decide, h_tossesToLead_ok l D κ a v hv hap hls o hoa w (j) (by omega), c_X1_tossesToLead_ok l D κ b u v hv hbp (j) (by omega), fun _ => rfl, hi⟩
set_option maxHeartbeats 4000000 in
theorem op_meanTenths (l : Launch) (hls : l.stackTraces = false) (D : va_G) (κ : Nat → ClassId) (a b : Nat → Nat) (v : VS) (hi : iv_ v) (hap : ap_ a 9) (hbp : ap_ b 4) (o : Nat) (hoa : ¬ xa_ a o) (w : Nat → UInt64) (u : Nat) : ∃ (cd : Nat) (r rb : UInt64) (v2 : VS), cd ≤ 3 ∧ Hp l yL_meanTenths cL_meanTenths 3 [(0, 7, 10, 15)] 7 120 (Ph_ D κ a v (od_ κ o w) [.ref (a 0), .ref o]) D κ a o v2 cd (Pd_ D κ o cd (r)) ∧ Wr l yX1_meanTenths cX1_meanTenths 3 (some .double) 5 118 (Pw D (kt_ κ) (mw κ b u v) [.ref (b 0)]) D (mw κ b cd v2) (ma_ b) (some (.double rb)) ∧ (cd = 0 → rb = r) ∧ iv_ v2 := by
  have hv := hi.1
  have hu := hi.2.1
  obtain ⟨hv1, hv2, hv3, hv4, hv5, hv6⟩ := id hv
  rcases Nat.eq_zero_or_pos (wl_ v (hh_ v) (tt_ v)) with hw0 | hw
  · exact ⟨1, (0 : UInt64), (FP.i2d (nI (0))), v, by decide, h_meanTenths_x l D κ a v hv hap hls o hoa w ((0 : UInt64)) (hw0), c_X1_meanTenths_x1 l D κ b u v hv hbp (hw0), fun z => absurd z (by decide), hi⟩
  · exact ⟨0, (mt_ v), (mt_ v), v, by decide, h_meanTenths_ok l D κ a v hv hap hls o hoa w (hw), c_X1_meanTenths_ok l D κ b u v hv hbp (hw), fun _ => rfl, hi⟩
