/-! ===== the law's loop ===== -/
section LOOP
variable {p : Program} {l : Launch} {e : Env} {s : State} {m : MethodId} {below : List Frame} {meth : Method} {c : Code} {b L : Nat} {xs : Nat → Int32} {D : va_G} {κ : Nat → ClassId} {a bb : Nat → Nat} {o1 o2 : Nat} {Q : State → Prop}
theorem law_disp (C : LC_ p l s m c b L xs D κ a bb o1 o2) {k j cells slots : Nat} {H : Heap} {locs : List Loc} {ls : Array Slot} {v : VS} {u : Nat} {w : Nat → Int64} {wd : Nat → UInt64} (hj : j < 64) (hH : LH_ s D κ a bb o1 o2 v u v w wd H locs) (hi : iv_ v) (hk : 4 * k + 4 ≤ L) (hc : cells + 1 ≤ room_1.cells ∧ slots + 6 ≤ room_1.slots) (hl : lv_has ls 9 (lb_k b a bb o1 o2 k)) (N : LN_ p l e s m below meth c b D κ a bb o1 o2 k (cells + 1) (slots + 6) Q) : W p l e room_1 s m (lg1_ b) below meth c H locs cells slots Q (F0 m 44 ls [.int (nI j)]) := by
  have hx := C.1.1
  have hb := C.1.2.1
  have ej : (nI j).toInt = (j : Int) := nI_toInt (by omega)
  rcases Nat.lt_or_ge j 35 with h | h
  · match j, h, ej with
    | 0, _, ej => exact lv_tableIn (off := 156) (tgt := 200) hx hb dL_law_44 (by rw [ej]; decide) (by rw [ej]; decide) (by rw [ej]; rfl) (by decide) (law_c0 C hH hi hk hc hl N)
    | 1, _, ej => exact lv_tableIn (off := 212) (tgt := 256) hx hb dL_law_44 (by rw [ej]; decide) (by rw [ej]; decide) (by rw [ej]; rfl) (by decide) (law_c1 C hH hi hk hc hl N)
    | 2, _, ej => exact lv_tableIn (off := 268) (tgt := 312) hx hb dL_law_44 (by rw [ej]; decide) (by rw [ej]; decide) (by rw [ej]; rfl) (by decide) (law_c2 C hH hi hk hc hl N)
    | 3, _, ej => exact lv_tableIn (off := 348) (tgt := 392) hx hb dL_law_44 (by rw [ej]; decide) (by rw [ej]; decide) (by rw [ej]; rfl) (by decide) (law_c3 C hH hi hk hc hl N)
    | 4, _, ej => exact lv_tableIn (off := 420) (tgt := 464) hx hb dL_law_44 (by rw [ej]; decide) (by rw [ej]; decide) (by rw [ej]; rfl) (by decide) (law_c4 C hH hi hk hc hl N)
    | 5, _, ej => exact lv_tableIn (off := 471) (tgt := 515) hx hb dL_law_44 (by rw [ej]; decide) (by rw [ej]; decide) (by rw [ej]; rfl) (by decide) (law_c5 C hH hi hk hc hl N)
    | 6, _, ej => exact lv_tableIn (off := 527) (tgt := 571) hx hb dL_law_44 (by rw [ej]; decide) (by rw [ej]; decide) (by rw [ej]; rfl) (by decide) (law_c6 C hH hi hk hc hl N)
    | 7, _, ej => exact lv_tableIn (off := 540) (tgt := 584) hx hb dL_law_44 (by rw [ej]; decide) (by rw [ej]; decide) (by rw [ej]; rfl) (by decide) (law_c7 C hH hi hk hc hl N)
    | 8, _, ej => exact lv_tableIn (off := 553) (tgt := 597) hx hb dL_law_44 (by rw [ej]; decide) (by rw [ej]; decide) (by rw [ej]; rfl) (by decide) (law_c8 C hH hi hk hc hl N)
    | 9, _, ej => exact lv_tableIn (off := 566) (tgt := 610) hx hb dL_law_44 (by rw [ej]; decide) (by rw [ej]; decide) (by rw [ej]; rfl) (by decide) (law_c9 C hH hi hk hc hl N)
    | 10, _, ej => exact lv_tableIn (off := 579) (tgt := 623) hx hb dL_law_44 (by rw [ej]; decide) (by rw [ej]; decide) (by rw [ej]; rfl) (by decide) (law_c10 C hH hi hk hc hl N)
    | 11, _, ej => exact lv_tableIn (off := 642) (tgt := 686) hx hb dL_law_44 (by rw [ej]; decide) (by rw [ej]; decide) (by rw [ej]; rfl) (by decide) (law_c11 C hH hi hk hc hl N)
    | 12, _, ej => exact lv_tableIn (off := 698) (tgt := 742) hx hb dL_law_44 (by rw [ej]; decide) (by rw [ej]; decide) (by rw [ej]; rfl) (by decide) (law_c12 C hH hi hk hc hl N)
    | 13, _, ej => exact lv_tableIn (off := 754) (tgt := 798) hx hb dL_law_44 (by rw [ej]; decide) (by rw [ej]; decide) (by rw [ej]; rfl) (by decide) (law_c13 C hH hi hk hc hl N)
    | 14, _, ej => exact lv_tableIn (off := 822) (tgt := 866) hx hb dL_law_44 (by rw [ej]; decide) (by rw [ej]; decide) (by rw [ej]; rfl) (by decide) (law_c14 C hH hi hk hc hl N)
    | 15, _, ej => exact lv_tableIn (off := 889) (tgt := 933) hx hb dL_law_44 (by rw [ej]; decide) (by rw [ej]; decide) (by rw [ej]; rfl) (by decide) (law_c15 C hH hi hk hc hl N)
    | 16, _, ej => exact lv_tableIn (off := 944) (tgt := 988) hx hb dL_law_44 (by rw [ej]; decide) (by rw [ej]; decide) (by rw [ej]; rfl) (by decide) (law_c16 C hH hi hk hc hl N)
    | 17, _, ej => exact lv_tableIn (off := 999) (tgt := 1043) hx hb dL_law_44 (by rw [ej]; decide) (by rw [ej]; decide) (by rw [ej]; rfl) (by decide) (law_c17 C hH hi hk hc hl N)
    | 18, _, ej => exact lv_tableIn (off := 1013) (tgt := 1057) hx hb dL_law_44 (by rw [ej]; decide) (by rw [ej]; decide) (by rw [ej]; rfl) (by decide) (law_c18 C hH hi hk hc hl N)
    | 19, _, ej => exact lv_tableIn (off := 1076) (tgt := 1120) hx hb dL_law_44 (by rw [ej]; decide) (by rw [ej]; decide) (by rw [ej]; rfl) (by decide) (law_c19 C hH hi hk hc hl N)
    | 20, _, ej => exact lv_tableIn (off := 1089) (tgt := 1133) hx hb dL_law_44 (by rw [ej]; decide) (by rw [ej]; decide) (by rw [ej]; rfl) (by decide) (law_c20 C hH hi hk hc hl N)
    | 21, _, ej => exact lv_tableIn (off := 1145) (tgt := 1189) hx hb dL_law_44 (by rw [ej]; decide) (by rw [ej]; decide) (by rw [ej]; rfl) (by decide) (law_c21 C hH hi hk hc hl N)
    | 22, _, ej => exact lv_tableIn (off := 1201) (tgt := 1245) hx hb dL_law_44 (by rw [ej]; decide) (by rw [ej]; decide) (by rw [ej]; rfl) (by decide) (law_c22 C hH hi hk hc hl N)
    | 23, _, ej => exact lv_tableIn (off := 1245) (tgt := 1289) hx hb dL_law_44 (by rw [ej]; decide) (by rw [ej]; decide) (by rw [ej]; rfl) (by decide) (law_c23 C hH hi hk hc hl N)
    | 24, _, ej => exact lv_tableIn (off := 1289) (tgt := 1333) hx hb dL_law_44 (by rw [ej]; decide) (by rw [ej]; decide) (by rw [ej]; rfl) (by decide) (law_c24 C hH hi hk hc hl N)
    | 25, _, ej => exact lv_tableIn (off := 1356) (tgt := 1400) hx hb dL_law_44 (by rw [ej]; decide) (by rw [ej]; decide) (by rw [ej]; rfl) (by decide) (law_c25 C hH hi hk hc hl N)
    | 26, _, ej => exact lv_tableIn (off := 1412) (tgt := 1456) hx hb dL_law_44 (by rw [ej]; decide) (by rw [ej]; decide) (by rw [ej]; rfl) (by decide) (law_c26 C hH hi hk hc hl N)
    | 27, _, ej => exact lv_tableIn (off := 1425) (tgt := 1469) hx hb dL_law_44 (by rw [ej]; decide) (by rw [ej]; decide) (by rw [ej]; rfl) (by decide) (law_c27 C hH hi hk hc hl N)
    | 28, _, ej => exact lv_tableIn (off := 1438) (tgt := 1482) hx hb dL_law_44 (by rw [ej]; decide) (by rw [ej]; decide) (by rw [ej]; rfl) (by decide) (law_c28 C hH hi hk hc hl N)
    | 29, _, ej => exact lv_tableIn (off := 1482) (tgt := 1526) hx hb dL_law_44 (by rw [ej]; decide) (by rw [ej]; decide) (by rw [ej]; rfl) (by decide) (law_c29 C hH hi hk hc hl N)
    | 30, _, ej => exact lv_tableIn (off := 1554) (tgt := 1598) hx hb dL_law_44 (by rw [ej]; decide) (by rw [ej]; decide) (by rw [ej]; rfl) (by decide) (law_c30 C hH hi hk hc hl N)
    | 31, _, ej => exact lv_tableIn (off := 1626) (tgt := 1670) hx hb dL_law_44 (by rw [ej]; decide) (by rw [ej]; decide) (by rw [ej]; rfl) (by decide) (law_c31 C hH hi hk hc hl N)
    | 32, _, ej => exact lv_tableIn (off := 1682) (tgt := 1726) hx hb dL_law_44 (by rw [ej]; decide) (by rw [ej]; decide) (by rw [ej]; rfl) (by decide) (law_c32 C hH hi hk hc hl N)
    | 33, _, ej => exact lv_tableIn (off := 1695) (tgt := 1739) hx hb dL_law_44 (by rw [ej]; decide) (by rw [ej]; decide) (by rw [ej]; rfl) (by decide) (law_c33 C hH hi hk hc hl N)
    | 34, _, ej => exact lv_tableIn (off := 1760) (tgt := 1804) hx hb dL_law_44 (by rw [ej]; decide) (by rw [ej]; decide) (by rw [ej]; rfl) (by decide) (law_c34 C hH hi hk hc hl N)
    | j + 35, h, _ => exact absurd h (by omega)
  · refine lv_tableOut (tgt := 1818) hx hb dL_law_44 (by rw [ej]; omega) (by decide) ?_
    exact W.widen (k := cells + 1) (n := slots + 6) (by omega) (by omega) (N v u w wd H locs ls hi hH hl)
theorem law_loop (C : LC_ p l s m c b L xs D κ a bb o1 o2) (hQ : ∀ (cells slots : Nat) (H : Heap) (locs : List Loc) (ls : Array Slot), cells ≤ 671665 → slots ≤ 7081108 → va_S (lA_ s) s.heap H locs → W p l e room_1 s m (lg1_ b) below meth c H locs cells slots Q (F0 m 1825 ls [.int 1])) : ∀ (n k cells slots : Nat) (v : VS) (u : Nat) (w : Nat → Int64) (wd : Nat → UInt64) (H : Heap) (locs : List Loc) (ls : Array Slot), L ≤ 4 * (k + n) → 4 * k ≤ L → cells + n ≤ 671665 → slots + 6 * n ≤ 7081108 → iv_ v → LH_ s D κ a bb o1 o2 v u v w wd H locs → lv_has ls 9 (lb_k b a bb o1 o2 k) → W p l e room_1 s m (lg1_ b) below meth c H locs cells slots Q (F0 m 28 ls []) := by
  have hx := C.1.1
  have hb := C.1.2.1
  have hL : L ≤ 2048 := C.2.2.2.2.2.2.1
  intro n
  induction n with
  | zero =>
    intro k cells slots v u w wd H locs ls hn hk hc hs hi hH hl
    refine lv_iload hx hb dL_law_28 (lv_at hl 5 rfl) ?_
    refine lv_aload_n hx hb dL_law_30 rfl (lv_at hl 0 rfl) ?_
    refine va_slen hx hb C.2.2.2.1 C.2.2.2.2.1 (Nat.not_le.mpr C.2.2.2.2.1) hH.2.2.2.2 dL_law_31 ?_
    refine lv_iconst (v := nI 4) hx hb dL_law_32 (by decide) ?_
    refine lv_isub hx hb dL_law_33 ?_
    refine lv_icmp_gt (tgt := 1824) hx hb dL_law_34 (by decide) (fun _ => ?_) (fun z => absurd ?_ z)
    · exact lv_iconst (v := 1) hx hb dL_law_1824 (by decide) (hQ cells slots H locs ls (by omega) (by omega) hH.2.2.2.2)
    · rw [Int32.lt_iff_toInt_lt, show Int32.ofNat L = nI L from rfl, pk_sub_toInt (by omega) (by decide), nI_toInt (by omega)]
      omega
  | succ n ih =>
    intro k cells slots v u w wd H locs ls hn hk hc hs hi hH hl
    refine lv_iload hx hb dL_law_28 (lv_at hl 5 rfl) ?_
    refine lv_aload_n hx hb dL_law_30 rfl (lv_at hl 0 rfl) ?_
    refine va_slen hx hb C.2.2.2.1 C.2.2.2.2.1 (Nat.not_le.mpr C.2.2.2.2.1) hH.2.2.2.2 dL_law_31 ?_
    refine lv_iconst (v := nI 4) hx hb dL_law_32 (by decide) ?_
    refine lv_isub hx hb dL_law_33 ?_
    refine lv_icmp_gt (tgt := 1824) hx hb dL_law_34 (by decide) (fun _ => ?_) (fun z => ?_)
    · exact lv_iconst (v := 1) hx hb dL_law_1824 (by decide) (hQ cells slots H locs ls (by omega) (by omega) hH.2.2.2.2)
    · rw [Int32.lt_iff_toInt_lt, show Int32.ofNat L = nI L from rfl, pk_sub_toInt (by omega) (by decide), nI_toInt (by omega)] at z
      refine lv_aload_n hx hb dL_law_37 rfl (lv_at hl 0 rfl) ?_
      refine lv_iload hx hb dL_law_38 (lv_at hl 5 rfl) ?_
      refine lr_sld (j := 4 * k) C hH (by omega) dL_law_40 ?_
      refine lv_bipush (v := (63 : Int32)) hx hb dL_law_41 (by decide) ?_
      refine lv_iand hx hb dL_law_43 ?_
      obtain ⟨j, hj, ej⟩ := pk_andE (xs (4 * k)) (m := (63 : Int32)) 6 (by decide)
      rw [ej]
      refine law_disp C (k := k) hj hH hi (by omega) ⟨show cells + 1 ≤ 671665 by omega, show slots + 6 ≤ 7081108 by omega⟩ hl ?_
      intro v u w wd H locs ls hi hH hl
      refine lv_iinc (k := 5) (v := nI (4 * (k + 1))) (lv' := [(5, .int (nI (4 * (k + 1)))), (0, .ref b), (1, .ref (a 0)), (2, .ref (bb 0)), (3, .ref o1), (4, .ref o2)]) hx hb dL_law_1818 hl rfl (by rw [show Int32.ofInt 4 = nI 4 from by decide, nI_add]; rfl) (by decide) rfl (fun ls hl => ?_)
      refine lv_goto (tgt := 28) hx hb dL_law_1821 (by decide) ?_
      exact ih (k + 1) (cells + 1) (slots + 6) v u w wd H locs ls (by omega) (by omega) (by omega) (by omega) hi hH (lv_sub hl [1, 2, 3, 4, 5, 0] rfl)
end LOOP
