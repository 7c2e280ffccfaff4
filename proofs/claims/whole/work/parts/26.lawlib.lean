/-! ===== the law's body: what stands still, what moves, a call of a helper, a call of the reference ===== -/
theorem kept_of {D : va_G} {ws : va_W} {H H1 : Heap} {B : Nat → Prop} (h : va_P D vwCl ws H) (hq : ∀ (k : Nat) (q : Nat × va_E), ws[k]? = some q → ¬ B q.1) (hk : ∀ z : Nat, z < H.size → ¬ B z → H1[z]? = H[z]?) : va_P D vwCl ws H1 := h.kept (fun k q hq' => hk q.1 (h k q hq').lt (hq k q hq'))
theorem one_key {o : Nat} {x : va_E} {k : Nat} {q : Nat × va_E} (h : ([(o, x)] : va_W)[k]? = some q) : q.1 = o := by
  have h1 : k < 1 := (List.getElem?_eq_some_iff.mp h).1
  have h2 : k = 0 := by omega
  subst h2
  cases h
  rfl
abbrev lA_ (s : State) : Nat → Prop := fun q => s.heap.size ≤ q
abbrev lg1_ (b : Nat) : Array Value := #[Value.ref b]
/-- which cells the law's two objects and its two arrays are: new ones, apart -/
def lds_ (s : State) (a bb : Nat → Nat) (o1 o2 : Nat) : Prop :=
  ((∀ q, xa_ a q → s.heap.size ≤ q) ∧ (∀ q, ma_ bb q → s.heap.size ≤ q) ∧ s.heap.size ≤ o1 ∧ s.heap.size ≤ o2) ∧ ¬ xa_ a o1 ∧ ¬ xa_ a o2 ∧ ¬ ma_ bb o1 ∧ ¬ ma_ bb o2 ∧ o1 ≠ o2 ∧ (∀ q, xa_ a q → ¬ ma_ bb q) ∧ ap_ a 9 ∧ ap_ bb 4
/-- what stands still -/
def LC_ (p : Program) (l : Launch) (s : State) (m : MethodId) (c : Code) (b L : Nat) (xs : Nat → Int32) (D : va_G) (κ : Nat → ClassId) (a bb : Nat → Nat) (o1 o2 : Nat) : Prop :=
  CallFix p m c cL_law 9 s (lg1_ b) lw_all RL ∧ va_K D vwCl (kl_ κ) s ∧ ThL (lA_ s) s ∧ va_X b L xs s s.heap ∧ b < s.heap.size ∧ l.stackTraces = false ∧ L ≤ 2048 ∧ lds_ s a bb o1 o2
/-- what moves: the class' object, the reference, the two arrays -/
def LH_ (s : State) (D : va_G) (κ : Nat → ClassId) (a bb : Nat → Nat) (o1 o2 : Nat) (v : VS) (u : Nat) (v' : VS) (w : Nat → Int64) (wd : Nat → UInt64) (H : Heap) (locs : List Loc) : Prop :=
  va_P D vwCl (xw κ a v) H ∧ va_P D vwCl (mw κ bb u v') H ∧ va_P D vwCl (ol_ κ o1 w) H ∧ va_P D vwCl (od_ κ o2 wd) H ∧ va_S (lA_ s) s.heap H locs
abbrev lb_k (b : Nat) (a bb : Nat → Nat) (o1 o2 k : Nat) : List (Nat × Value) := [(0, .ref b), (1, .ref (a 0)), (2, .ref (bb 0)), (3, .ref o1), (4, .ref o2), (5, .int (nI (4 * k)))]
section LAW
variable {p : Program} {l : Launch} {e : Env} {s : State} {m : MethodId} {below : List Frame} {meth : Method} {c : Code} {b L : Nat} {xs : Nat → Int32} {D : va_G} {κ : Nat → ClassId} {a bb : Nat → Nat} {o1 o2 : Nat} {Q : State → Prop}
variable {H : Heap} {locs : List Loc} {cells slots pc : Nat} {ls : Array Slot} {rest : List Value} {v v' v2 : VS} {u k : Nat} {w : Nat → Int64} {wd : Nat → UInt64}
theorem lr_sld (C : LC_ p l s m c b L xs D κ a bb o1 o2) (hH : LH_ s D κ a bb o1 o2 v u v' w wd H locs) {j : Nat} (hj : j < L) (hdg : decode cL_law pc = .ok (.iaload, 1))
    (kk : W p l e room_1 s m (lg1_ b) below meth c H locs cells slots Q (F0 m (pc + 1) ls (.int (xs j) :: rest))) : W p l e room_1 s m (lg1_ b) below meth c H locs cells slots Q (F0 m pc ls (.int (nI j) :: .ref b :: rest)) := by
  obtain ⟨⟨hx, hb, -, -, -⟩, -, -, hX, hbl, -, hL, -⟩ := C
  exact va_sld hx hb hX hbl (Nat.not_le.mpr hbl) hH.2.2.2.2 (vp_in_nI hj (by omega)) hdg (by rw [nI_clamp (by omega)]; exact kk)
/-- an int as a truth value -/
def zb_ (x : Int32) : Bool := !decide (x = 0)
theorem lr_bool {q : Nat} (C : LC_ p l s m c b L xs D κ a bb o1 o2) {x : Int32} (d0 : decode cL_law q = .ok (.ifCond .eq 7, 3)) (d3 : decode cL_law (q + 3) = .ok (.iconst 1, 1)) (d4 : decode cL_law (q + 4) = .ok (.goto 4, 3)) (d7 : decode cL_law (q + 7) = .ok (.iconst 0, 1))
    (kk : W p l e room_1 s m (lg1_ b) below meth c H locs cells slots Q (F0 m (q + 8) ls (.int (bI (zb_ x)) :: rest))) : W p l e room_1 s m (lg1_ b) below meth c H locs cells slots Q (F0 m q ls (.int x :: rest)) := by
  obtain ⟨⟨hx, hb, -, -, -⟩, -⟩ := C
  refine lv_if_eq (tgt := q + 7) hx hb d0 (by omega) (fun h => ?_) (fun h => ?_)
  · refine lv_iconst (v := bI (zb_ x)) hx hb d7 ?_ kk
    unfold zb_
    rw [h]
    decide
  · refine lv_iconst (v := bI (zb_ x)) hx hb d3 ?_ ?_
    · unfold zb_
      rw [decide_eq_false h]
      decide
    · exact lv_goto (tgt := q + 8) hx hb d4 (by omega) kk
theorem lr_m {B : Nat → Prop} {H1 : Heap} (hP : va_P D vwCl (mw κ bb u v) H) (hB : ∀ q, ma_ bb q → ¬ B q) (hk : ∀ z : Nat, z < H.size → ¬ B z → H1[z]? = H[z]?) : va_P D vwCl (mw κ bb u v) H1 :=
  kept_of hP (fun k q hq => hB q.1 ⟨k, mx_key κ bb _ _ _ _ _ _ _ _ k q hq⟩) hk
theorem lr_x {B : Nat → Prop} {H1 : Heap} (hP : va_P D vwCl (xw κ a v) H) (hB : ∀ q, xa_ a q → ¬ B q) (hk : ∀ z : Nat, z < H.size → ¬ B z → H1[z]? = H[z]?) : va_P D vwCl (xw κ a v) H1 :=
  kept_of hP (fun k q hq => hB q.1 ⟨k, xw_key κ a v k q hq⟩) hk
theorem lr_o {B : Nat → Prop} {H1 : Heap} {o : Nat} {x : va_E} (hP : va_P D vwCl [(o, x)] H) (hB : ¬ B o) (hk : ∀ z : Nat, z < H.size → ¬ B z → H1[z]? = H[z]?) : va_P D vwCl [(o, x)] H1 :=
  kept_of hP (fun k q hq => by rw [one_key hq]; exact hB) hk
theorem lr_call {y : MethodName} {bytes : ByteArray} {n fr lo N index o cd : Nat} {hh : List (Nat × Nat × Nat × Nat)} {ow : va_W} {As : List Value} {st0 : List Value} {Po : Heap → Prop}
    (C : LC_ p l s m c b L xs D κ a bb o1 o2) (hM : Hp l y bytes n hh fr lo (Ph_ D κ a v ow As) D κ a o v2 cd Po) (hG : GoodIn lw_all (va_wsS RL index y (wh_ y bytes n (some .int) hh)))
    (hd : y.cls ≠ "java/lang/invoke/MethodHandle" ∧ y.cls ≠ "java/lang/invoke/VarHandle" ∧ (parseMethodDescriptor y.desc).map (fun d => d.parameters.length) = some N) (hR : fr + 1 ≤ room_1.frames ∧ 8 + (n + 11) + lo ≤ room_1.locals)
    (hPx : va_P D vwCl (xw κ a v) H) (hPo : va_P D vwCl ow H) (hS : va_S (lA_ s) s.heap H locs) (ho : s.heap.size ≤ o) (hn : As.length = N) (hsize : ls.size = 9) (hstack : st0 = As.reverse ++ rest) (hW : (rest.map fun v => v.category).sum ≤ 8) (hdg : decode cL_law pc = .ok (.invokestatic index, 3)) (hf : cells + 1 ≤ room_1.cells ∧ slots + 6 ≤ room_1.slots)
    (kk : ∀ (H1 : Heap) (locs1 : List Loc), va_P D vwCl (xw κ a v2) H1 → Po H1 → va_S (lA_ s) s.heap H1 locs1 → (∀ z : Nat, z < H.size → ¬ xo_ a o z → H1[z]? = H[z]?) → W p l e room_1 s m (lg1_ b) below meth c H1 locs1 (cells + 1) (slots + 6) Q (F0 m (pc + 3) ls (.int (nI cd) :: rest))) :
    W p l e room_1 s m (lg1_ b) below meth c H locs cells slots Q (F0 m pc ls st0) := by
  obtain ⟨S, hK, hT, -, -, -, -, ⟨⟨hxf, -, -, -⟩, -⟩⟩ := C
  have hA : ∀ q, xo_ a o q → lA_ s q := fun q h => by
    rcases h with h | h
    · exact hxf q h
    · rw [h]; exact ho
  intro T hT9 X
  have hr := vx_runSW (p := p) (l := l) (e := e) (R := room_1) (below := below) (meth := meth) (H := H) (locs := locs) (cells := cells) (slots := slots) (rest := rest) (g := F0 m pc ls st0) S hM (vx_cwSW N S.2.2.2.2 hG rfl rfl rfl hd hR) ⟨Ph_blind, fun U hU hW => ⟨rfl, by rw [hU]; exact hPx, by rw [hU]; exact hPo, va_K.moved hW.alike hK, ThL.to hT hW hU hS⟩⟩ rfl hn hsize hstack (lv_room hW) hdg hf
  obtain ⟨w9, st₀, t, T', L1, h0, X', hL, e1, e2, ⟨hv, hp, hpo, hF⟩, st⟩ := hr T hT9 X
  cases hv
  obtain ⟨t2, a1, b1⟩ := kk t.heap (locs ++ L1) hp hpo (hS.step h0 hF hA hL) (by rw [← h0]; exact hF.2) T' e1 X'
  exact ⟨t2, st t2 a1, b1⟩
/-- a helper that answers in the array of longs -/
theorem lr_help {y : MethodName} {bytes : ByteArray} {n fr lo N index cd : Nat} {hh : List (Nat × Nat × Nat × Nat)} {As : List Value} {st0 : List Value} {r : Int64}
    (C : LC_ p l s m c b L xs D κ a bb o1 o2) (hH : LH_ s D κ a bb o1 o2 v u v' w wd H locs) (hM : Hp l y bytes n hh fr lo (Ph_ D κ a v (ol_ κ o1 w) As) D κ a o1 v2 cd (Pl_ D κ o1 cd r)) (hG : GoodIn lw_all (va_wsS RL index y (wh_ y bytes n (some .int) hh)))
    (hd : y.cls ≠ "java/lang/invoke/MethodHandle" ∧ y.cls ≠ "java/lang/invoke/VarHandle" ∧ (parseMethodDescriptor y.desc).map (fun d => d.parameters.length) = some N) (hR : fr + 1 ≤ room_1.frames ∧ 8 + (n + 11) + lo ≤ room_1.locals)
    (hn : As.length = N) (hsize : ls.size = 9) (hstack : st0 = As.reverse) (hdg : decode cL_law pc = .ok (.invokestatic index, 3)) (hf : cells + 1 ≤ room_1.cells ∧ slots + 6 ≤ room_1.slots)
    (kk : ∀ (H1 : Heap) (locs1 : List Loc) (w1 : Nat → Int64), LH_ s D κ a bb o1 o2 v2 u v' w1 wd H1 locs1 → (cd = 0 → w1 0 = r) → W p l e room_1 s m (lg1_ b) below meth c H1 locs1 (cells + 1) (slots + 6) Q (F0 m (pc + 3) ls [.int (nI cd)])) :
    W p l e room_1 s m (lg1_ b) below meth c H locs cells slots Q (F0 m pc ls st0) := by
  obtain ⟨hPx, hPm, hPo, hPd, hS⟩ := hH
  obtain ⟨⟨hxf, hmf, h1f, h2f⟩, n1, n2, n3, n4, n5, n6, hap, hbp⟩ := C.2.2.2.2.2.2.2
  refine lr_call (rest := []) C hM hG hd hR hPx hPo hS h1f hn hsize (by rw [List.append_nil]; exact hstack) (Nat.zero_le _) hdg hf (fun H1 locs1 hPx hPo hS hk => ?_)
  obtain ⟨w1, hPo, hw⟩ := hPo
  exact kk H1 locs1 w1 ⟨hPx, lr_m hPm (fun q hq h => by
    rcases h with h | h
    · exact n6 q h hq
    · rw [h] at hq; exact n3 hq) hk, hPo, lr_o hPd (fun h => by
    rcases h with h | h
    · exact n2 h
    · exact n5 h.symm) hk, hS⟩ hw
/-- .. in the array of doubles -/
theorem lr_helpD {y : MethodName} {bytes : ByteArray} {n fr lo N index cd : Nat} {hh : List (Nat × Nat × Nat × Nat)} {As : List Value} {st0 : List Value} {r : UInt64}
    (C : LC_ p l s m c b L xs D κ a bb o1 o2) (hH : LH_ s D κ a bb o1 o2 v u v' w wd H locs) (hM : Hp l y bytes n hh fr lo (Ph_ D κ a v (od_ κ o2 wd) As) D κ a o2 v2 cd (Pd_ D κ o2 cd r)) (hG : GoodIn lw_all (va_wsS RL index y (wh_ y bytes n (some .int) hh)))
    (hd : y.cls ≠ "java/lang/invoke/MethodHandle" ∧ y.cls ≠ "java/lang/invoke/VarHandle" ∧ (parseMethodDescriptor y.desc).map (fun d => d.parameters.length) = some N) (hR : fr + 1 ≤ room_1.frames ∧ 8 + (n + 11) + lo ≤ room_1.locals)
    (hn : As.length = N) (hsize : ls.size = 9) (hstack : st0 = As.reverse) (hdg : decode cL_law pc = .ok (.invokestatic index, 3)) (hf : cells + 1 ≤ room_1.cells ∧ slots + 6 ≤ room_1.slots)
    (kk : ∀ (H1 : Heap) (locs1 : List Loc) (w1 : Nat → UInt64), LH_ s D κ a bb o1 o2 v2 u v' w w1 H1 locs1 → (cd = 0 → w1 0 = r) → W p l e room_1 s m (lg1_ b) below meth c H1 locs1 (cells + 1) (slots + 6) Q (F0 m (pc + 3) ls [.int (nI cd)])) :
    W p l e room_1 s m (lg1_ b) below meth c H locs cells slots Q (F0 m pc ls st0) := by
  obtain ⟨hPx, hPm, hPo, hPd, hS⟩ := hH
  obtain ⟨⟨hxf, hmf, h1f, h2f⟩, n1, n2, n3, n4, n5, n6, hap, hbp⟩ := C.2.2.2.2.2.2.2
  refine lr_call (rest := []) C hM hG hd hR hPx hPd hS h2f hn hsize (by rw [List.append_nil]; exact hstack) (Nat.zero_le _) hdg hf (fun H1 locs1 hPx hPd hS hk => ?_)
  obtain ⟨w1, hPd, hw⟩ := hPd
  exact kk H1 locs1 w1 ⟨hPx, lr_m hPm (fun q hq h => by
    rcases h with h | h
    · exact n6 q h hq
    · rw [h] at hq; exact n4 hq) hk, lr_o hPo (fun h => by
    rcases h with h | h
    · exact n1 h
    · exact n5 h) hk, hPd, hS⟩ hw
/-- a call of the reference -/
theorem lr_mod {y : MethodName} {bytes : ByteArray} {maxL fr lo N index cd : Nat} {ret : Option FieldType} {rv : Value} {As : List Value} {st0 : List Value}
    (C : LC_ p l s m c b L xs D κ a bb o1 o2) (hH : LH_ s D κ a bb o1 o2 v u v' w wd H locs) (hM : Wr l y bytes maxL ret fr lo (Pw D (kt_ κ) (mw κ bb u v') (.ref (bb 0) :: As)) D (mw κ bb cd v2) (ma_ bb) (some rv)) (hG : GoodIn lw_all (wsV RL index RX1 y (ws_ y bytes maxL ret)))
    (hd : y.cls = RX1 ∧ y.cls ≠ "java/lang/invoke/MethodHandle" ∧ y.cls ≠ "java/lang/invoke/VarHandle" ∧ (parseMethodDescriptor y.desc).map (fun d => d.parameters.length) = some N) (hR : fr + 1 ≤ room_1.frames ∧ 8 + (maxL + 11) + lo ≤ room_1.locals)
    (hn : As.length = N) (hsize : ls.size = 9) (hstack : st0 = As.reverse ++ .ref (bb 0) :: rest) (hW : (rest.map fun v => v.category).sum ≤ 8) (hdg : decode cL_law pc = .ok (.invokevirtual index, 3)) (hf : cells ≤ room_1.cells ∧ slots ≤ room_1.slots)
    (kk : ∀ (H1 : Heap) (locs1 : List Loc), LH_ s D κ a bb o1 o2 v cd v2 w wd H1 locs1 → W p l e room_1 s m (lg1_ b) below meth c H1 locs1 cells slots Q (F0 m (pc + 3) ls (rv :: rest))) :
    W p l e room_1 s m (lg1_ b) below meth c H locs cells slots Q (F0 m pc ls st0) := by
  obtain ⟨hPx, hPm, hPo, hPd, hS⟩ := hH
  obtain ⟨⟨hxf, hmf, h1f, h2f⟩, n1, n2, n3, n4, n5, n6, hap, hbp⟩ := C.2.2.2.2.2.2.2
  refine wr_V (rest := rest) (ci := 1) C.1 hM hG hd hR (C.2.1.sub [0, 1, 2] rfl) hPm rfl rfl hn hsize hstack hW hdg hf hS hmf (fun H1 locs1 hPm hS _ hk => ?_)
  exact kk H1 locs1 ⟨lr_x hPx (fun q hq h => n6 q hq h) hk, hPm, lr_o hPo n3 hk, lr_o hPd n4 hk, hS⟩
/-- a call of the class that only reads -/
theorem lr_cls {y : MethodName} {bytes : ByteArray} {maxL fr lo N index : Nat} {ret : Option FieldType} {rv : Value} {As : List Value} {st0 : List Value}
    (C : LC_ p l s m c b L xs D κ a bb o1 o2) (hH : LH_ s D κ a bb o1 o2 v u v' w wd H locs) (hM : Rd l y bytes maxL ret fr lo (Pw D (kt_ κ) (xw κ a v) (.ref (a 0) :: As)) rv) (hG : GoodIn lw_all (wsV RL index RX0 y (ws_ y bytes maxL ret)))
    (hd : y.cls = RX0 ∧ y.cls ≠ "java/lang/invoke/MethodHandle" ∧ y.cls ≠ "java/lang/invoke/VarHandle" ∧ (parseMethodDescriptor y.desc).map (fun d => d.parameters.length) = some N) (hR : fr + 1 ≤ room_1.frames ∧ 8 + (maxL + 11) + lo ≤ room_1.locals)
    (hn : As.length = N) (hsize : ls.size = 9) (hstack : st0 = As.reverse ++ .ref (a 0) :: rest) (hW : (rest.map fun v => v.category).sum ≤ 8) (hdg : decode cL_law pc = .ok (.invokevirtual index, 3)) (hf : cells ≤ room_1.cells ∧ slots ≤ room_1.slots)
    (kk : W p l e room_1 s m (lg1_ b) below meth c H locs cells slots Q (F0 m (pc + 3) ls (rv :: rest))) :
    W p l e room_1 s m (lg1_ b) below meth c H locs cells slots Q (F0 m pc ls st0) :=
  rd_V (rest := rest) (ci := 0) C.1 hM hG hd hR (C.2.1.sub [0, 1, 2] rfl) hH.1 rfl rfl hn hsize hstack hW hdg hf kk
/-- what comes behind a call: the next one -/
def LN_ (p : Program) (l : Launch) (e : Env) (s : State) (m : MethodId) (below : List Frame) (meth : Method) (c : Code) (b : Nat) (D : va_G) (κ : Nat → ClassId) (a bb : Nat → Nat) (o1 o2 k cells slots : Nat) (Q : State → Prop) : Prop :=
  ∀ (v : VS) (u : Nat) (w : Nat → Int64) (wd : Nat → UInt64) (H : Heap) (locs : List Loc) (ls : Array Slot), iv_ v → LH_ s D κ a bb o1 o2 v u v w wd H locs → lv_has ls 9 (lb_k b a bb o1 o2 k) → W p l e room_1 s m (lg1_ b) below meth c H locs cells slots Q (F0 m 1818 ls [])
/-- 'thrown' of both: the same -/
theorem lr_thrown {cd q : Nat} (C : LC_ p l s m c b L xs D κ a bb o1 o2) (hH : LH_ s D κ a bb o1 o2 v cd v w wd H locs) (hi : iv_ v) (hc : cells ≤ room_1.cells ∧ slots ≤ room_1.slots) {lv : List (Nat × Value)} {i2 i6 : Nat} (hl : lv_has ls 9 lv) (h2 : lv[i2]? = some (2, .ref (bb 0))) (h6 : lv[i6]? = some (6, .int (nI cd)))
    (d0 : decode cL_law q = .ok (.aload_n 2, 1)) (d1 : decode cL_law (q + 1) = .ok (.invokevirtual 110, 3)) (d4 : decode cL_law (q + 4) = .ok (.iload 6, 2)) (d6 : decode cL_law (q + 6) = .ok (.if_icmp .eq 5, 3)) (d11 : decode cL_law (q + 11) = .ok (.iload 6, 2))
    (kk : W p l e room_1 s m (lg1_ b) below meth c H locs cells slots Q (F0 m (q + 13) ls [.int (nI cd)])) : W p l e room_1 s m (lg1_ b) below meth c H locs cells slots Q (F0 m q ls []) := by
  have hx := C.1.1
  have hb := C.1.2.1
  refine lv_aload_n hx hb d0 rfl (lv_at hl i2 h2) ?_
  refine rd_V (rest := []) (ci := 1) C.1 (c_X1_thrown l D κ bb cd v hi.1) g_L_110 n_X1_thrown ⟨Nat.le_of_ble_eq_true rfl, Nat.le_of_ble_eq_true rfl⟩ (C.2.1.sub [0, 1, 2] rfl) hH.2.1 rfl rfl rfl hl.1 rfl (Nat.zero_le _) d1 hc ?_
  refine lv_iload hx hb d4 (lv_at hl i6 h6) ?_
  refine lv_icmp_eq (tgt := q + 11) hx hb d6 (by omega) (fun _ => ?_) (fun z => absurd rfl z)
  exact lv_iload hx hb d11 (lv_at hl i6 h6) kk
theorem lr_lcmp {q tgt : Nat} {off : Int} (C : LC_ p l s m c b L xs D κ a bb o1 o2) {x : Int64} (d0 : decode cL_law q = .ok (.lcmp, 1)) (d1 : decode cL_law (q + 1) = .ok (.ifCond .eq off, 3)) (ht : ((q + 1 : Nat) : Int) + off = (tgt : Int))
    (kk : W p l e room_1 s m (lg1_ b) below meth c H locs cells slots Q (F0 m tgt ls rest)) : W p l e room_1 s m (lg1_ b) below meth c H locs cells slots Q (F0 m q ls (.long x :: .long x :: rest)) :=
  W.lcmp C.1.1 C.1.2.1 d0 (lv_if_eq C.1.1 C.1.2.1 d1 ht (fun _ => kk) (fun z => absurd ((lg_cmp_eq _ _).mpr rfl) z))
theorem lr_cd {cd q tgt : Nat} {off : Int} (C : LC_ p l s m c b L xs D κ a bb o1 o2) (hcd : cd ≤ 3) (d0 : decode cL_law q = .ok (.ifCond .ne off, 3)) (ht : (q : Int) + off = (tgt : Int))
    (k1 : W p l e room_1 s m (lg1_ b) below meth c H locs cells slots Q (F0 m tgt ls rest)) (k0 : cd = 0 → W p l e room_1 s m (lg1_ b) below meth c H locs cells slots Q (F0 m (q + 3) ls rest)) : W p l e room_1 s m (lg1_ b) below meth c H locs cells slots Q (F0 m q ls (.int (nI cd) :: rest)) :=
  nv_if_ne C.1.1 C.1.2.1 d0 ht (by omega) (fun _ => k1) k0
theorem lr_lald {q : Nat} (C : LC_ p l s m c b L xs D κ a bb o1 o2) (hH : LH_ s D κ a bb o1 o2 v u v' w wd H locs) (hdg : decode cL_law q = .ok (.laload, 1))
    (kk : W p l e room_1 s m (lg1_ b) below meth c H locs cells slots Q (F0 m (q + 1) ls (.long (w 0) :: rest))) : W p l e room_1 s m (lg1_ b) below meth c H locs cells slots Q (F0 m q ls (.int (nI 0) :: .ref o1 :: rest)) :=
  va_lald (cA := κ 3) (n := 1) (f := w) C.1.1 C.1.2.1 C.2.1 hH.2.2.1 0 3 rfl rfl (vp_in_nI (by decide) (by decide)) hdg (by rw [nI_clamp (by decide)]; exact kk)
theorem lr_dald {q : Nat} (C : LC_ p l s m c b L xs D κ a bb o1 o2) (hH : LH_ s D κ a bb o1 o2 v u v' w wd H locs) (hdg : decode cL_law q = .ok (.daload, 1))
    (kk : W p l e room_1 s m (lg1_ b) below meth c H locs cells slots Q (F0 m (q + 1) ls (.double (wd 0) :: rest))) : W p l e room_1 s m (lg1_ b) below meth c H locs cells slots Q (F0 m q ls (.int (nI 0) :: .ref o2 :: rest)) :=
  va_dald (cA := κ 4) (n := 1) (f := wd) C.1.1 C.1.2.1 C.2.1 hH.2.2.2.1 0 4 rfl rfl (vp_in_nI (by decide) (by decide)) hdg (by rw [nI_clamp (by decide)]; exact kk)
section TAILS
variable {cd q : Nat} {og : Int}
/-- behind a call of the reference: an int -/
theorem law_tI {r rb : Int32} (C : LC_ p l s m c b L xs D κ a bb o1 o2) (hH : LH_ s D κ a bb o1 o2 v cd v w wd H locs) (hi : iv_ v) (hc : cells ≤ room_1.cells ∧ slots ≤ room_1.slots) (hl : lv_has ls 9 ((6, .int (nI cd)) :: lb_k b a bb o1 o2 k)) (hcd : cd ≤ 3) (hw : cd = 0 → w 0 = r.toInt64) (hr : cd = 0 → rb = r) (N : LN_ p l e s m below meth c b D κ a bb o1 o2 k cells slots Q)
    (d0 : decode cL_law q = .ok (.istore 7, 2)) (d2 : decode cL_law (q + 2) = .ok (.aload_n 2, 1)) (d3 : decode cL_law (q + 3) = .ok (.invokevirtual 110, 3)) (d6 : decode cL_law (q + 6) = .ok (.iload 6, 2)) (d8 : decode cL_law (q + 8) = .ok (.if_icmp .eq 5, 3)) (d13 : decode cL_law (q + 13) = .ok (.iload 6, 2)) (d15 : decode cL_law (q + 15) = .ok (.ifCond .ne 15, 3))
    (d18 : decode cL_law (q + 18) = .ok (.aload_n 3, 1)) (d19 : decode cL_law (q + 19) = .ok (.iconst 0, 1)) (d20 : decode cL_law (q + 20) = .ok (.laload, 1)) (d21 : decode cL_law (q + 21) = .ok (.iload 7, 2)) (d23 : decode cL_law (q + 23) = .ok (.i2l, 1)) (d24 : decode cL_law (q + 24) = .ok (.lcmp, 1)) (d25 : decode cL_law (q + 25) = .ok (.ifCond .eq 5, 3)) (d30 : decode cL_law (q + 30) = .ok (.goto og, 3)) (hg : (q : Int) + 30 + og = 1818) :
    W p l e room_1 s m (lg1_ b) below meth c H locs cells slots Q (F0 m q ls [.int rb]) := by
  have hx := C.1.1
  have hb := C.1.2.1
  refine lv_istore (lv' := (7, .int rb) :: (6, .int (nI cd)) :: lb_k b a bb o1 o2 k) hx hb d0 hl (by decide) rfl (fun ls hl => ?_)
  have hend : W p l e room_1 s m (lg1_ b) below meth c H locs cells slots Q (F0 m (q + 30) ls []) := lv_goto (tgt := 1818) hx hb d30 (by omega) (N v cd w wd H locs ls hi hH (lv_sub hl [2, 3, 4, 5, 6, 7] rfl))
  refine lr_thrown (cd := cd) C hH hi hc hl (i2 := 4) (i6 := 1) rfl rfl d2 d3 d6 d8 d13 ?_
  refine lr_cd (tgt := q + 30) C hcd d15 (by omega) hend (fun h0 => ?_)
  refine lv_aload_n hx hb d18 rfl (lv_at hl 5 rfl) ?_
  refine lv_iconst (v := nI 0) hx hb d19 (by decide) ?_
  refine lr_lald C hH d20 ?_
  refine lv_iload hx hb d21 (lv_at hl 0 rfl) ?_
  refine lv_i2l (v := w 0) hx hb d23 (by rw [hw h0, hr h0]) ?_
  exact lr_lcmp (tgt := q + 30) C d24 d25 (by omega) hend
/-- .. a truth value -/
theorem law_tZ {r rb : Bool} (C : LC_ p l s m c b L xs D κ a bb o1 o2) (hH : LH_ s D κ a bb o1 o2 v cd v w wd H locs) (hi : iv_ v) (hc : cells ≤ room_1.cells ∧ slots ≤ room_1.slots) (hl : lv_has ls 9 ((6, .int (nI cd)) :: lb_k b a bb o1 o2 k)) (hcd : cd ≤ 3) (hw : cd = 0 → w 0 = (bI r).toInt64) (hr : cd = 0 → rb = r) (N : LN_ p l e s m below meth c b D κ a bb o1 o2 k cells slots Q)
    (d0 : decode cL_law q = .ok (.istore 7, 2)) (d2 : decode cL_law (q + 2) = .ok (.aload_n 2, 1)) (d3 : decode cL_law (q + 3) = .ok (.invokevirtual 110, 3)) (d6 : decode cL_law (q + 6) = .ok (.iload 6, 2)) (d8 : decode cL_law (q + 8) = .ok (.if_icmp .eq 5, 3)) (d13 : decode cL_law (q + 13) = .ok (.iload 6, 2)) (d15 : decode cL_law (q + 15) = .ok (.ifCond .ne 22, 3))
    (d18 : decode cL_law (q + 18) = .ok (.aload_n 3, 1)) (d19 : decode cL_law (q + 19) = .ok (.iconst 0, 1)) (d20 : decode cL_law (q + 20) = .ok (.laload, 1)) (d21 : decode cL_law (q + 21) = .ok (.iload 7, 2)) (d23 : decode cL_law (q + 23) = .ok (.ifCond .eq 7, 3)) (d26 : decode cL_law (q + 26) = .ok (.lconst 1, 1)) (d27 : decode cL_law (q + 27) = .ok (.goto 4, 3)) (d30 : decode cL_law (q + 30) = .ok (.lconst 0, 1)) (d31 : decode cL_law (q + 31) = .ok (.lcmp, 1)) (d32 : decode cL_law (q + 32) = .ok (.ifCond .eq 5, 3)) (d37 : decode cL_law (q + 37) = .ok (.goto og, 3)) (hg : (q : Int) + 37 + og = 1818) :
    W p l e room_1 s m (lg1_ b) below meth c H locs cells slots Q (F0 m q ls [.int (bI rb)]) := by
  have hx := C.1.1
  have hb := C.1.2.1
  refine lv_istore (lv' := (7, .int (bI rb)) :: (6, .int (nI cd)) :: lb_k b a bb o1 o2 k) hx hb d0 hl (by decide) rfl (fun ls hl => ?_)
  have hend : W p l e room_1 s m (lg1_ b) below meth c H locs cells slots Q (F0 m (q + 37) ls []) := lv_goto (tgt := 1818) hx hb d37 (by omega) (N v cd w wd H locs ls hi hH (lv_sub hl [2, 3, 4, 5, 6, 7] rfl))
  refine lr_thrown (cd := cd) C hH hi hc hl (i2 := 4) (i6 := 1) rfl rfl d2 d3 d6 d8 d13 ?_
  refine lr_cd (tgt := q + 37) C hcd d15 (by omega) hend (fun h0 => ?_)
  refine lv_aload_n hx hb d18 rfl (lv_at hl 5 rfl) ?_
  refine lv_iconst (v := nI 0) hx hb d19 (by decide) ?_
  refine lr_lald C hH d20 ?_
  refine lv_iload hx hb d21 (lv_at hl 0 rfl) ?_
  refine bv_if_eq (tgt := q + 30) hx hb d23 (by omega) (fun hz => ?_) (fun hz => ?_)
  · refine lv_lconst (v := w 0) hx hb d30 (by rw [hw h0, ← hr h0, hz]; decide) ?_
    exact lr_lcmp (tgt := q + 37) C d31 d32 (by omega) hend
  · refine lv_lconst (v := w 0) hx hb d26 (by rw [hw h0, ← hr h0, hz]; decide) ?_
    refine lv_goto (tgt := q + 31) hx hb d27 (by omega) ?_
    exact lr_lcmp (tgt := q + 37) C d31 d32 (by omega) hend
/-- .. a long -/
theorem law_tL {r rb : Int64} (C : LC_ p l s m c b L xs D κ a bb o1 o2) (hH : LH_ s D κ a bb o1 o2 v cd v w wd H locs) (hi : iv_ v) (hc : cells ≤ room_1.cells ∧ slots ≤ room_1.slots) (hl : lv_has ls 9 ((6, .int (nI cd)) :: lb_k b a bb o1 o2 k)) (hcd : cd ≤ 3) (hw : cd = 0 → w 0 = r) (hr : cd = 0 → rb = r) (N : LN_ p l e s m below meth c b D κ a bb o1 o2 k cells slots Q)
    (d0 : decode cL_law q = .ok (.lstore 7, 2)) (d2 : decode cL_law (q + 2) = .ok (.aload_n 2, 1)) (d3 : decode cL_law (q + 3) = .ok (.invokevirtual 110, 3)) (d6 : decode cL_law (q + 6) = .ok (.iload 6, 2)) (d8 : decode cL_law (q + 8) = .ok (.if_icmp .eq 5, 3)) (d13 : decode cL_law (q + 13) = .ok (.iload 6, 2)) (d15 : decode cL_law (q + 15) = .ok (.ifCond .ne 14, 3))
    (d18 : decode cL_law (q + 18) = .ok (.aload_n 3, 1)) (d19 : decode cL_law (q + 19) = .ok (.iconst 0, 1)) (d20 : decode cL_law (q + 20) = .ok (.laload, 1)) (d21 : decode cL_law (q + 21) = .ok (.lload 7, 2)) (d23 : decode cL_law (q + 23) = .ok (.lcmp, 1)) (d24 : decode cL_law (q + 24) = .ok (.ifCond .eq 5, 3)) (d29 : decode cL_law (q + 29) = .ok (.goto og, 3)) (hg : (q : Int) + 29 + og = 1818) :
    W p l e room_1 s m (lg1_ b) below meth c H locs cells slots Q (F0 m q ls [.long rb]) := by
  have hx := C.1.1
  have hb := C.1.2.1
  refine lv_lstore (lv' := (7, .long rb) :: (6, .int (nI cd)) :: lb_k b a bb o1 o2 k) hx hb d0 hl (by decide) rfl (fun ls hl => ?_)
  have hend : W p l e room_1 s m (lg1_ b) below meth c H locs cells slots Q (F0 m (q + 29) ls []) := lv_goto (tgt := 1818) hx hb d29 (by omega) (N v cd w wd H locs ls hi hH (lv_sub hl [2, 3, 4, 5, 6, 7] rfl))
  refine lr_thrown (cd := cd) C hH hi hc hl (i2 := 4) (i6 := 1) rfl rfl d2 d3 d6 d8 d13 ?_
  refine lr_cd (tgt := q + 29) C hcd d15 (by omega) hend (fun h0 => ?_)
  refine lv_aload_n hx hb d18 rfl (lv_at hl 5 rfl) ?_
  refine lv_iconst (v := nI 0) hx hb d19 (by decide) ?_
  refine lr_lald C hH d20 ?_
  refine lv_lload hx hb d21 (lv_at hl 0 rfl) ?_
  refine nv_topl (show rb = w 0 from by rw [hw h0, hr h0]) ?_
  exact lr_lcmp (tgt := q + 29) C d23 d24 (by omega) hend
/-- .. a double: the answers are the same, so they are equal or both no numbers -/
theorem law_tD {r rb : UInt64} (C : LC_ p l s m c b L xs D κ a bb o1 o2) (hH : LH_ s D κ a bb o1 o2 v cd v w wd H locs) (hi : iv_ v) (hc : cells ≤ room_1.cells ∧ slots ≤ room_1.slots) (hl : lv_has ls 9 ((6, .int (nI cd)) :: lb_k b a bb o1 o2 k)) (hcd : cd ≤ 3) (hw : cd = 0 → wd 0 = r) (hr : cd = 0 → rb = r) (N : LN_ p l e s m below meth c b D κ a bb o1 o2 k cells slots Q) :
    W p l e room_1 s m (lg1_ b) below meth c H locs cells slots Q (F0 m 1751 ls [.double rb]) := by
  have hx := C.1.1
  have hb := C.1.2.1
  refine lv_dstore (lv' := (7, .double rb) :: (6, .int (nI cd)) :: lb_k b a bb o1 o2 k) hx hb dL_law_1751 hl (by decide) rfl (fun ls hl => ?_)
  have hend : W p l e room_1 s m (lg1_ b) below meth c H locs cells slots Q (F0 m 1801 ls []) := lv_goto (tgt := 1818) hx hb dL_law_1801 (by decide) (N v cd w wd H locs ls hi hH (lv_sub hl [2, 3, 4, 5, 6, 7] rfl))
  refine lr_thrown (cd := cd) C hH hi hc hl (i2 := 4) (i6 := 1) rfl rfl dL_law_1753 dL_law_1754 dL_law_1757 dL_law_1759 dL_law_1764 ?_
  refine lr_cd (tgt := 1801) C hcd dL_law_1766 (by decide) hend (fun h0 => ?_)
  have e1 : wd 0 = rb := by rw [hw h0, hr h0]
  refine lv_aload hx hb dL_law_1769 (lv_at hl 6 rfl) ?_
  refine lv_iconst (v := nI 0) hx hb dL_law_1771 (by decide) ?_
  refine lr_dald C hH dL_law_1772 ?_
  rw [e1]
  refine lv_dload hx hb dL_law_1773 (lv_at hl 0 rfl) ?_
  refine lv_dcmp hx hb dL_law_1775 ?_
  refine lv_if_eq (tgt := 1801) hx hb dL_law_1776 (by decide) (fun _ => hend) (fun h1 => ?_)
  refine lv_aload hx hb dL_law_1779 (lv_at hl 6 rfl) ?_
  refine lv_iconst (v := nI 0) hx hb dL_law_1781 (by decide) ?_
  refine lr_dald C hH dL_law_1782 ?_
  refine lv_aload hx hb dL_law_1783 (lv_at hl 6 rfl) ?_
  refine lv_iconst (v := nI 0) hx hb dL_law_1785 (by decide) ?_
  refine lr_dald C hH dL_law_1786 ?_
  rw [e1]
  refine lv_dcmp hx hb dL_law_1787 ?_
  refine lv_if_eq (tgt := 1799) hx hb dL_law_1788 (by decide) (fun h2 => absurd h2 h1) (fun _ => ?_)
  refine lv_dload hx hb dL_law_1791 (lv_at hl 0 rfl) ?_
  refine lv_dload hx hb dL_law_1793 (lv_at hl 0 rfl) ?_
  refine lv_dcmp hx hb dL_law_1795 ?_
  exact lv_if_ne (tgt := 1801) hx hb dL_law_1796 (by decide) (fun _ => hend) (fun h2 => absurd h2 h1)
end TAILS
end LAW
