/-! ===== one list of words for all methods: every word of the tables that every reader carries ===== -/
def lw_all : List Cond := lw_tbl.filter goodWord
theorem lw_in {w : Cond} (i : Nat) (h : lw_tbl[i]? = some w) (hg : goodWord w = true) : w ∈ lw_all := List.mem_filter.mpr ⟨List.mem_of_getElem? h, hg⟩
theorem lw_of {w : Cond} (h : w ∈ lw_all) : w ∈ lw_tbl := (List.mem_filter.mp h).1
theorem lw_gd {w : Cond} (h : w ∈ lw_all) : (w.onTables && w.keeps) = true ∨ ∃ ty, w = .arrayClass ty := good_of_word (List.mem_filter.mp h).2
theorem lw_sub {ws : List Cond} (h1 : ∀ w ∈ ws, w ∈ lw_tbl) (h2 : ∀ w ∈ ws, goodWord w = true) : ∀ w ∈ ws, w ∈ lw_all := fun w h => List.mem_filter.mpr ⟨h1 w h, h2 w h⟩
abbrev ws_ (y : MethodName) (b : ByteArray) (n : Nat) (r : Option FieldType) : List Cond := .code y b n r :: lw_all
abbrev wh_ (y : MethodName) (b : ByteArray) (n : Nat) (r : Option FieldType) (hh : List (Nat × Nat × Nat × Nat)) : List Cond := .codeWith y b n r hh :: lw_all
theorem lw_G {c : Cond} (h : c ∈ lw_all) : GoodIn lw_all (c :: lw_all) := fun w hw => by
  rcases List.mem_cons.mp hw with e | h2
  · subst e
    exact ⟨h, lw_gd h⟩
  · exact ⟨h2, lw_gd h2⟩
theorem lw_V {own C : String} {idx : Nat} {y : MethodName} {c : Cond} (h1 : Cond.methodLink own idx y ∈ lw_all) (h2 : Cond.instanceMethod y ∈ lw_all) (h3 : Cond.selects C y y ∈ lw_all) (h4 : Cond.initialized C ∈ lw_all) (h5 : c ∈ lw_all) : GoodIn lw_all (wsV own idx C y (c :: lw_all)) := by
  intro w hw
  rcases List.mem_append.mp hw with h | h
  · simp only [List.mem_cons, List.not_mem_nil, or_false] at h
    rcases h with e | e | e | e <;> subst e
    · exact ⟨h1, lw_gd h1⟩
    · exact ⟨h2, lw_gd h2⟩
    · exact ⟨h3, lw_gd h3⟩
    · exact ⟨h4, lw_gd h4⟩
  · exact lw_G h5 w h
theorem lw_S {own : String} {idx : Nat} {y : MethodName} {c : Cond} (h1 : Cond.methodLink own idx y ∈ lw_all) (h2 : Cond.static y ∈ lw_all) (h4 : Cond.initialized y.cls ∈ lw_all) (h5 : c ∈ lw_all) : GoodIn lw_all (va_wsS own idx y (c :: lw_all)) := by
  intro w hw
  rcases List.mem_append.mp hw with h | h
  · simp only [List.mem_cons, List.not_mem_nil, or_false] at h
    rcases h with e | e | e <;> subst e
    · exact ⟨h1, lw_gd h1⟩
    · exact ⟨h2, lw_gd h2⟩
    · exact ⟨h4, lw_gd h4⟩
  · exact lw_G h5 w h
theorem i_X0 : ∀ w ∈ u_ws RX0 TX0 7, w ∈ lw_all := lw_sub (by decide +kernel) (by decide +kernel)
theorem i_X1 : ∀ w ∈ u_ws RX1 TX1 8, w ∈ lw_all := lw_sub (by decide +kernel) (by decide +kernel)
/-! ===== contracts ===== -/
/-- a start: the arguments, a world -/
def Pw (D : va_G) (tys : List (ClassId × FieldType)) (ws : va_W) (As : List Value) : Array Value → State → Prop := va_Pc As (fun U => va_P D vwCl ws U.heap ∧ va_K D vwCl tys U)
theorem Pw_blind {D : va_G} {tys : List (ClassId × FieldType)} {ws : va_W} {As : List Value} : FrameBlind (Pw D tys ws As) := fun a U g mk q => ⟨q.1, q.2.1, va_K.moved (u := U) (U := U.calling g mk a) (Vm.Alike.refl U.vm) q.2.2⟩
/-- a start that asks nothing but its arguments -/
def Pn (As : List Value) : Array Value → State → Prop := fun a _ => a = As.toArray
theorem Pn_blind {As : List Value} : FrameBlind (Pn As) := fun _ _ _ _ q => q
/-- an end: the answer, the heap as it was -/
def Qr (v : Value) : Array Value → State → Outcome → State → Prop := fun _ st o t => o = .returned (some v) ∧ t.heap = st.heap
/-- an end without an answer, the heap as it was -/
def Qn : Array Value → State → Outcome → State → Prop := fun _ st o t => o = .returned none ∧ t.heap = st.heap
/-- an end: the answer, the world as it is then, nothing else changed -/
def Qx (D : va_G) (ws : va_W) (A : Nat → Prop) (v : Option Value) : Array Value → State → Outcome → State → Prop := fun _ st o t => o = .returned v ∧ va_P D vwCl ws t.heap ∧ va_F A st t
abbrev rm_ (fr lo : Nat) : Room := { frames := fr, cells := 0, slots := 0, locals := lo }
abbrev rx_ (fr lo : Nat) : Room := { frames := fr, cells := 1, slots := 6, locals := lo }
abbrev Rd (l : Launch) (y : MethodName) (b : ByteArray) (n : Nat) (r : Option FieldType) (fr lo : Nat) (P : Array Value → State → Prop) (v : Value) : Prop := Met l y (ws_ y b n r) (rm_ fr lo) P (Qr v) 0 0 (fun _ => False)
abbrev Rn (l : Launch) (y : MethodName) (b : ByteArray) (n : Nat) (r : Option FieldType) (fr lo : Nat) (P : Array Value → State → Prop) : Prop := Met l y (ws_ y b n r) (rm_ fr lo) P Qn 0 0 (fun _ => False)
abbrev Wr (l : Launch) (y : MethodName) (b : ByteArray) (n : Nat) (r : Option FieldType) (fr lo : Nat) (P : Array Value → State → Prop) (D : va_G) (ws : va_W) (A : Nat → Prop) (v : Option Value) : Prop := Met l y (ws_ y b n r) (rm_ fr lo) P (Qx D ws A v) 0 0 A
def XE (E0 : String) : String → State → State → Prop := fun E st t => E = E0 ∧ va_F (fun _ => False) st t
def Qf : Array Value → State → Outcome → State → Prop := fun _ _ _ _ => False
abbrev Tx (l : Launch) (y : MethodName) (b : ByteArray) (n : Nat) (r : Option FieldType) (fr lo : Nat) (P : Array Value → State → Prop) (E : String) : Prop := vx_Met l y (ws_ y b n r) (rx_ fr lo) P Qf (XE E) 1 6 (fun _ => False)
/-! ===== what a throw asks: words that aren't carried by every reader, the two statics, the texts ===== -/
def lw_face : List Cond := lw_tbl.filter (fun w => w.onTables && w.keepsFace)
def lw_strs : List (Nat × String) := [(166, "there is no such coin"), (37, "tenths are 0 to 10"), (44, "there are 8 coins"), (173, "there are tosses"), (50, "odds are 1 to 9"), (52, "there are 4 schools"), (169, "there is no such school"), (61, "a share is 0 to 9"), (63, "there are 12 tosses"), (175, "such a toss cannot be"), (80, "there are no tosses"), (171, "there is no such toss"), (112, "the whole weight is 0"), (114, "the second coin is ruled out")]
def ThA (A : Nat → Prop) (U : State) : Prop := (∀ w ∈ lw_face, w.before #[] U = true) ∧ vx_Zq Bundle.tN "UNASSIGNED_STACK" Bundle.steD A U U.heap ∧ vx_Zq Bundle.tN "SUPPRESSED_SENTINEL" Bundle.listD A U U.heap ∧ ∀ q ∈ lw_strs, ∃ sa, vk_R RX0 q.1 q.2 sa U
abbrev Thr (U : State) : Prop := ThA (fun _ => False) U
theorem face_at {args a' : Array Value} {s U : State} {w : Cond} (hW : s.WarmedH U.vm) (hg : (w.onTables && w.keepsFace) = true) (h : w.before args s = true) : w.before a' U = true := by
  simp only [Bool.and_eq_true] at hg
  have h1 := Cond.before_shiftedFace (State.Shifted.of_warmed hW) w hg.2 h
  rw [Cond.onTables_vm (A' := a') (U' := U) U.vm w hg.1, State.setVm_self] at h1
  exact h1
theorem ThA.to {A : Nat → Prop} {s U : State} {H : Heap} {locs : List Loc} (h : ThA A s) (hW : s.WarmedH U.vm) (hU : U.heap = H) (hS : va_S A s.heap H locs) : Thr U := by
  obtain ⟨h1, h2, h3, h4⟩ := h
  have hk : ∀ a : Nat, a < s.heap.size → ¬ A a → U.heap[a]? = s.heap[a]? := fun a ha hA => by rw [hU]; exact hS.2.1 a ha hA
  exact ⟨fun w hw => face_at hW (List.mem_filter.mp hw).2 (h1 w hw), ((vx_Zq.moved hW.alike h2).kept hk).narrow (fun _ z => z.elim), ((vx_Zq.moved hW.alike h3).kept hk).narrow (fun _ z => z.elim), fun q hq => by
    obtain ⟨sa, hs⟩ := h4 q hq
    exact ⟨sa, hs.warm hW⟩⟩
theorem Thr.blind {a : Array Value} {U : State} {g : JFrame} {mk : MethodId} (h : Thr U) : Thr (U.calling g mk a) := by
  obtain ⟨h1, h2, h3, h4⟩ := h
  refine ⟨fun w hw => va_tabs (by have := (List.mem_filter.mp hw).2; simp only [Bool.and_eq_true] at this; exact this.1) (show U.vm = (U.calling g mk a).vm from rfl) (h1 w hw), vx_Zq.moved (u := U) (Vm.Alike.refl U.vm) h2, vx_Zq.moved (u := U) (Vm.Alike.refl U.vm) h3, fun q hq => ?_⟩
  obtain ⟨sa, hs⟩ := h4 q hq
  exact ⟨sa, vk_R.same (u := U) rfl hs⟩
/-- a start of a method that may throw -/
def Pt_ (D : va_G) (tys : List (ClassId × FieldType)) (ws : va_W) (As : List Value) : Array Value → State → Prop := va_Pc As (fun U => va_P D vwCl ws U.heap ∧ va_K D vwCl tys U ∧ Thr U)
theorem Pt_blind {D : va_G} {tys : List (ClassId × FieldType)} {ws : va_W} {As : List Value} : FrameBlind (Pt_ D tys ws As) := fun a U g mk q => ⟨q.1, q.2.1, va_K.moved (u := U) (U := U.calling g mk a) (Vm.Alike.refl U.vm) q.2.2.1, q.2.2.2.blind⟩
def Pnt (As : List Value) : Array Value → State → Prop := va_Pc As Thr
theorem Pnt_blind {As : List Value} : FrameBlind (Pnt As) := fun _ _ _ _ q => ⟨q.1, q.2.blind⟩
/-! ===== calls ===== -/
section LCALL
variable {p : Program} {l : Launch} {e : Env} {R : Room} {s : State} {m : MethodId} {args : Array Value} {below : List Frame} {meth : Method} {c : Code} {H : Heap} {locs : List Loc} {cells slots : Nat} {Q : State → Prop}
variable {D : va_G} {tys : List (ClassId × FieldType)} {ws : va_W} {own : String} {y : MethodName} {bytes cc : ByteArray} {maxL nL index fr lo b ci n pc : Nat} {ret : Option FieldType} {fs As rest st0 : List Value} {q : vw_C} {v : Value} {ls : Array Slot} {P : Array Value → State → Prop} {A : Nat → Prop} {E : String}
theorem lc_go {a : Array Value} (hr : CallRun p l e R s m args below meth c H locs cells slots 0 0 (F0 m pc ls st0) rest (Qr v a) (fun _ => False))
    (kk : W p l e R s m args below meth c H locs cells slots Q (F0 m (pc + 3) ls (v :: rest))) : W p l e R s m args below meth c H locs cells slots Q (F0 m pc ls st0) := by
  intro T hT X
  obtain ⟨w, st₀, t, T', L, h0, X', hL, e1, ⟨hv, hh⟩, st⟩ := hr T hT X
  cases hv
  obtain ⟨t2, a1, b1⟩ := kk T' (by rw [e1, hh, h0]) (Stand.forget X' (fun q h => (hL q h).elim))
  exact ⟨t2, st t2 a1, b1⟩
theorem lc_goN {a : Array Value} (hr : CallRun p l e R s m args below meth c H locs cells slots 0 0 (F0 m pc ls st0) rest (Qn a) (fun _ => False))
    (kk : W p l e R s m args below meth c H locs cells slots Q (F0 m (pc + 3) ls rest)) : W p l e R s m args below meth c H locs cells slots Q (F0 m pc ls st0) := by
  intro T hT X
  obtain ⟨w, st₀, t, T', L, h0, X', hL, e1, ⟨hv, hh⟩, st⟩ := hr T hT X
  cases hv
  obtain ⟨t2, a1, b1⟩ := kk T' (by rw [e1, hh, h0]) (Stand.forget X' (fun q h => (hL q h).elim))
  exact ⟨t2, st t2 a1, b1⟩
theorem Pw_V (hK : va_K D vwCl tys s) (hP : va_P D vwCl ws H) (hc : vwCl[ci]? = some q) (he : ws[0]? = some (b, .inr (ci, fs))) : PreV s H q.1 b (Pw D tys ws (.ref b :: As)) As :=
  ⟨Pw_blind, va_recv hK hP hc he, fun U hU hW => ⟨rfl, by rw [hU]; exact hP, va_K.moved hW.alike hK⟩⟩
/-- an instance method that only reads -/
theorem rd_V (S : CallFix p m c cc nL s args lw_all own) (hM : Rd l y bytes maxL ret fr lo (Pw D tys ws (.ref b :: As)) v) (hG : GoodIn lw_all (wsV own index q.1 y (ws_ y bytes maxL ret)))
    (hd : y.cls = q.1 ∧ y.cls ≠ "java/lang/invoke/MethodHandle" ∧ y.cls ≠ "java/lang/invoke/VarHandle" ∧ (parseMethodDescriptor y.desc).map (fun d => d.parameters.length) = some n) (hR : fr + 1 ≤ R.frames ∧ 8 + (maxL + 11) + lo ≤ R.locals)
    (hK : va_K D vwCl tys s) (hP : va_P D vwCl ws H) (hc : vwCl[ci]? = some q) (he : ws[0]? = some (b, .inr (ci, fs))) (hn : As.length = n) (hsize : ls.size = nL) (hstack : st0 = As.reverse ++ .ref b :: rest) (hW : (rest.map fun v => v.category).sum ≤ 8)
    (hdg : decode cc pc = .ok (.invokevirtual index, 3)) (hf : cells ≤ R.cells ∧ slots ≤ R.slots)
    (kk : W p l e R s m args below meth c H locs cells slots Q (F0 m (pc + 3) ls (v :: rest))) : W p l e R s m args below meth c H locs cells slots Q (F0 m pc ls st0) :=
  lc_go (W.runV S hM (cwV n S.2.2.2.2 hG rfl rfl rfl hd hR) (Pw_V hK hP hc he) rfl hn hsize hstack (lv_room hW) hdg hf) kk
/-- .. without an answer -/
theorem rd_VN (S : CallFix p m c cc nL s args lw_all own) (hM : Rn l y bytes maxL ret fr lo (Pw D tys ws (.ref b :: As))) (hG : GoodIn lw_all (wsV own index q.1 y (ws_ y bytes maxL ret)))
    (hd : y.cls = q.1 ∧ y.cls ≠ "java/lang/invoke/MethodHandle" ∧ y.cls ≠ "java/lang/invoke/VarHandle" ∧ (parseMethodDescriptor y.desc).map (fun d => d.parameters.length) = some n) (hR : fr + 1 ≤ R.frames ∧ 8 + (maxL + 11) + lo ≤ R.locals)
    (hK : va_K D vwCl tys s) (hP : va_P D vwCl ws H) (hc : vwCl[ci]? = some q) (he : ws[0]? = some (b, .inr (ci, fs))) (hn : As.length = n) (hsize : ls.size = nL) (hstack : st0 = As.reverse ++ .ref b :: rest) (hW : (rest.map fun v => v.category).sum ≤ 8)
    (hdg : decode cc pc = .ok (.invokevirtual index, 3)) (hf : cells ≤ R.cells ∧ slots ≤ R.slots)
    (kk : W p l e R s m args below meth c H locs cells slots Q (F0 m (pc + 3) ls rest)) : W p l e R s m args below meth c H locs cells slots Q (F0 m pc ls st0) :=
  lc_goN (W.runV S hM (cwV n S.2.2.2.2 hG rfl rfl rfl hd hR) (Pw_V hK hP hc he) rfl hn hsize hstack (lv_room hW) hdg hf) kk
/-- a static method that asks nothing but its arguments -/
theorem rd_S (S : CallFix p m c cc nL s args lw_all own) (hM : Rd l y bytes maxL ret fr lo (Pn As) v) (hG : GoodIn lw_all (va_wsS own index y (ws_ y bytes maxL ret)))
    (hd : y.cls ≠ "java/lang/invoke/MethodHandle" ∧ y.cls ≠ "java/lang/invoke/VarHandle" ∧ (parseMethodDescriptor y.desc).map (fun d => d.parameters.length) = some n) (hR : fr + 1 ≤ R.frames ∧ 8 + (maxL + 11) + lo ≤ R.locals)
    (hn : As.length = n) (hsize : ls.size = nL) (hstack : st0 = As.reverse ++ rest) (hW : (rest.map fun v => v.category).sum ≤ 8)
    (hdg : decode cc pc = .ok (.invokestatic index, 3)) (hf : cells ≤ R.cells ∧ slots ≤ R.slots)
    (kk : W p l e R s m args below meth c H locs cells slots Q (F0 m (pc + 3) ls (v :: rest))) : W p l e R s m args below meth c H locs cells slots Q (F0 m pc ls st0) :=
  lc_go (W.runS S hM (va_cwS n S.2.2.2.2 hG rfl rfl rfl hd hR) ⟨Pn_blind, fun _ _ _ => rfl⟩ rfl hn hsize hstack (lv_room hW) hdg hf) kk
/-- behind a run that may have written -/
theorem va_S.step {A0 A1 : Nat → Prop} {H0 H : Heap} {locs L : List Loc} {st t : State} (hS : va_S A0 H0 H locs) (h0 : st.heap = H) (hF : va_F A1 st t) (hA : ∀ q, A1 q → A0 q) (hL : ∀ q ∈ L, A1 q.base) : va_S A0 H0 t.heap (locs ++ L) := by
  obtain ⟨z, k⟩ := hF
  rw [h0] at z k
  refine ⟨Nat.le_trans hS.1 z, fun q h1 h2 => ?_, fun q hq => ?_⟩
  · rw [k q (Nat.lt_of_lt_of_le h1 hS.1) (fun h => h2 (hA q h))]
    exact hS.2.1 q h1 h2
  · rcases List.mem_append.mp hq with h | h
    · exact hS.2.2 q h
    · exact hA _ (hL q h)
theorem wr_go {ws' : va_W} {A0 : Nat → Prop} {H0 : Heap} {rv : Option Value} {a : Array Value} (hr : va_Run p l e R s m args below meth c H locs cells slots 0 0 (F0 m pc ls st0) rest (Qx D ws' A rv a) A) (hS : va_S A0 H0 H locs) (hA : ∀ q, A q → A0 q)
    (kk : ∀ (H1 : Heap) (locs1 : List Loc), va_P D vwCl ws' H1 → va_S A0 H0 H1 locs1 → H.size ≤ H1.size → (∀ q : Nat, q < H.size → ¬ A q → H1[q]? = H[q]?) → W p l e R s m args below meth c H1 locs1 cells slots Q (F0 m (pc + 3) ls (rv.toList ++ rest))) : W p l e R s m args below meth c H locs cells slots Q (F0 m pc ls st0) := by
  intro T hT X
  obtain ⟨w, st₀, t, T', L, h0, X', hL, e1, e2, ⟨hv, hp, hF⟩, st⟩ := hr T hT X
  cases hv
  obtain ⟨t2, a1, b1⟩ := kk t.heap (locs ++ L) hp (hS.step h0 hF hA hL) (by rw [← h0]; exact hF.1) (by rw [← h0]; exact hF.2) T' e1 X'
  exact ⟨t2, st t2 a1, b1⟩
/-- an instance method that writes its own world alone -/
theorem wr_V {ws' : va_W} {A0 : Nat → Prop} {H0 : Heap} {rv : Option Value} (S : CallFix p m c cc nL s args lw_all own) (hM : Wr l y bytes maxL ret fr lo (Pw D tys ws (.ref b :: As)) D ws' A rv) (hG : GoodIn lw_all (wsV own index q.1 y (ws_ y bytes maxL ret)))
    (hd : y.cls = q.1 ∧ y.cls ≠ "java/lang/invoke/MethodHandle" ∧ y.cls ≠ "java/lang/invoke/VarHandle" ∧ (parseMethodDescriptor y.desc).map (fun d => d.parameters.length) = some n) (hR : fr + 1 ≤ R.frames ∧ 8 + (maxL + 11) + lo ≤ R.locals)
    (hK : va_K D vwCl tys s) (hP : va_P D vwCl ws H) (hc : vwCl[ci]? = some q) (he : ws[0]? = some (b, .inr (ci, fs))) (hn : As.length = n) (hsize : ls.size = nL) (hstack : st0 = As.reverse ++ .ref b :: rest) (hW : (rest.map fun v => v.category).sum ≤ 8)
    (hdg : decode cc pc = .ok (.invokevirtual index, 3)) (hf : cells ≤ R.cells ∧ slots ≤ R.slots) (hS : va_S A0 H0 H locs) (hA : ∀ q, A q → A0 q)
    (kk : ∀ (H1 : Heap) (locs1 : List Loc), va_P D vwCl ws' H1 → va_S A0 H0 H1 locs1 → H.size ≤ H1.size → (∀ q : Nat, q < H.size → ¬ A q → H1[q]? = H[q]?) → W p l e R s m args below meth c H1 locs1 cells slots Q (F0 m (pc + 3) ls (rv.toList ++ rest))) : W p l e R s m args below meth c H locs cells slots Q (F0 m pc ls st0) :=
  wr_go (va_runV S hM (cwV n S.2.2.2.2 hG rfl rfl rfl hd hR) (Pw_V hK hP hc he) rfl hn hsize hstack (lv_room hW) hdg hf) hS hA kk
/-! throws -/
theorem Pt_V {A0 : Nat → Prop} (hK : va_K D vwCl tys s) (hP : va_P D vwCl ws H) (hT : ThA A0 s) (hS : va_S A0 s.heap H locs) (hc : vwCl[ci]? = some q) (he : ws[0]? = some (b, .inr (ci, fs))) : PreV s H q.1 b (Pt_ D tys ws (.ref b :: As)) As :=
  ⟨Pt_blind, va_recv hK hP hc he, fun U hU hW => ⟨rfl, by rw [hU]; exact hP, va_K.moved hW.alike hK, hT.to hW hU hS⟩⟩
/-- behind a run that has thrown -/
theorem tx_end {a : Array Value} (hr : vx_Run p l e R s m args below meth c s.heap [] 0 0 1 6 (F0 m pc ls st0) rest (Qf a) (XE E) (fun _ => False)) (ht : ∀ x ∈ c.exceptionTable.toList, False) (hlocks : meth.locks = false) :
    W p l e R s m args below meth c s.heap [] 0 0 (vx_MQ below Qf (XE E) args s 1 6 (fun _ => False)) (F0 m pc ls st0) := by
  intro T hT X
  rcases hr T hT X with ⟨w, st₀, t, T', L, h0, X', hL, e1, e2, hq, st⟩ | ⟨q9, st₀, t, T', L, E', ce, h0, X', hL, e1, e2, ⟨hE, hF⟩, hce, hcv, hcl, st⟩
  · exact hq.elim
  · subst hE
    have hF' : va_F (fun _ => False) s t := ⟨by rw [← h0]; exact hF.1, by rw [← h0]; exact hF.2⟩
    obtain ⟨t2, a1, b1⟩ := vx_out (p := p) (l := l) (e := e) (R := R) (s := s) (m := m) (args := args) (below := below) (meth := meth) (c := c) (H := t.heap) (locs := [] ++ L) (cells := 0 + 1) (slots := 0 + 6) (ls := ls) (rest := rest) (pc := pc) (Qc := Qf) (XC := XE E') (free := fun _ => False) (mc := 1) (ms := 6) (fun x hx => (ht x hx).elim) hlocks hce hcv hcl (fun t' ht' _ => ⟨rfl, by
      refine ⟨by rw [ht']; exact hF'.1, fun q h1 h2 => by rw [ht']; exact hF'.2 q h1 h2⟩⟩) (fun z hz => hL z (by simpa using hz)) (Nat.le_refl _) (Nat.le_refl _) T' e1 X'
    exact ⟨t2, st.trans a1, b1⟩
/-- the call of a method that throws: it goes on to the caller -/
theorem tx_V (S : CallFix p m c cc nL s args lw_all own) (hM : Tx l y bytes maxL ret fr lo (Pt_ D tys ws (.ref b :: As)) E) (hG : GoodIn lw_all (wsV own index q.1 y (ws_ y bytes maxL ret)))
    (hd : y.cls = q.1 ∧ y.cls ≠ "java/lang/invoke/MethodHandle" ∧ y.cls ≠ "java/lang/invoke/VarHandle" ∧ (parseMethodDescriptor y.desc).map (fun d => d.parameters.length) = some n) (hR : fr + 1 ≤ R.frames ∧ 8 + (maxL + 11) + lo ≤ R.locals)
    (hK : va_K D vwCl tys s) (hP : va_P D vwCl ws s.heap) (hT : Thr s) (hc : vwCl[ci]? = some q) (he : ws[0]? = some (b, .inr (ci, fs))) (hn : As.length = n) (hsize : ls.size = nL) (hstack : st0 = As.reverse ++ .ref b :: rest) (hW : (rest.map fun v => v.category).sum ≤ 8)
    (hdg : decode cc pc = .ok (.invokevirtual index, 3)) (hf : 0 + 1 ≤ R.cells ∧ 0 + 6 ≤ R.slots) (ht : ∀ x ∈ c.exceptionTable.toList, False) (hlocks : meth.locks = false) :
    W p l e R s m args below meth c s.heap [] 0 0 (vx_MQ below Qf (XE E) args s 1 6 (fun _ => False)) (F0 m pc ls st0) :=
  tx_end (vx_runV S hM (cwV n S.2.2.2.2 hG rfl rfl rfl hd hR) (Pt_V hK hP hT va_S.rf hc he) rfl hn hsize hstack (lv_room hW) hdg hf) ht hlocks
/-- .. a static one -/
theorem tx_S (S : CallFix p m c cc nL s args lw_all own) (hM : Tx l y bytes maxL ret fr lo (Pnt As) E) (hG : GoodIn lw_all (va_wsS own index y (ws_ y bytes maxL ret)))
    (hd : y.cls ≠ "java/lang/invoke/MethodHandle" ∧ y.cls ≠ "java/lang/invoke/VarHandle" ∧ (parseMethodDescriptor y.desc).map (fun d => d.parameters.length) = some n) (hR : fr + 1 ≤ R.frames ∧ 8 + (maxL + 11) + lo ≤ R.locals)
    (hT : Thr s) (hn : As.length = n) (hsize : ls.size = nL) (hstack : st0 = As.reverse ++ rest) (hW : (rest.map fun v => v.category).sum ≤ 8)
    (hdg : decode cc pc = .ok (.invokestatic index, 3)) (hf : 0 + 1 ≤ R.cells ∧ 0 + 6 ≤ R.slots) (ht : ∀ x ∈ c.exceptionTable.toList, False) (hlocks : meth.locks = false) :
    W p l e R s m args below meth c s.heap [] 0 0 (vx_MQ below Qf (XE E) args s 1 6 (fun _ => False)) (F0 m pc ls st0) :=
  tx_end (vx_runS S hM (va_cwS n S.2.2.2.2 hG rfl rfl rfl hd hR) ⟨Pnt_blind, fun U hU hW => ⟨rfl, hT.to hW hU va_S.rf⟩⟩ rfl hn hsize hstack (lv_room hW) hdg hf) ht hlocks
/-- 'throw new E("text")' of the class: kd is the class's word number, ic its constructor's, is the text's -/
theorem tx_throw {cls text : String} {ik is ic : Nat} (hx : p.tables.exec = Jvm.exec) (hb : c.code = cc) (hl : l.stackTraces = false) (hown : s.vm.findClass RX0 = some m.cls) (hts : ∀ w ∈ lw_all, w.before args s = true) (hT : Thr s)
    (hcls : Bundle.fit cls = true) (hk : Cond.classLink RX0 ik cls ∈ lw_all) (hini : Cond.initialized cls ∈ lw_all) (hstr : (is, text) ∈ lw_strs)
    (hg1 : ∀ w ∈ (vx_atS RX0 ic cls ["java/lang/RuntimeException", "java/lang/Exception"]).filter goodWord, w ∈ lw_all) (hg2 : ∀ w ∈ (vx_atS RX0 ic cls ["java/lang/RuntimeException", "java/lang/Exception"]).filter (fun w => !goodWord w), w ∈ lw_face)
    (hgood : ∀ w ∈ Cond.classLink RX0 ik cls :: Cond.initialized cls :: vx_atS RX0 ic cls ["java/lang/RuntimeException", "java/lang/Exception"], vx_ot w = true) (hsize : ls.size = c.maxLocals)
    (d0 : decode cc pc = .ok (.new ik, 3)) (d3 : decode cc (pc + 3) = .ok (.dup, 1)) (d4 : decode cc (pc + 4) = .ok (.ldc is, 2)) (d6 : decode cc (pc + 6) = .ok (.invokespecial ic, 3)) (d9 : decode cc (pc + 9) = .ok (.athrow, 1))
    (ht : ∀ x ∈ c.exceptionTable.toList, False) (hRf : 6 ≤ R.frames) (hRl : (rest.map fun v => v.category).sum + 82 ≤ R.locals) (hRc : 1 ≤ R.cells) (hRs : 6 ≤ R.slots) (hlocks : meth.locks = false) :
    W p l e R s m args below meth c s.heap [] 0 0 (vx_MQ below Qf (XE cls) args s 1 6 (fun _ => False)) (F0 m pc ls rest) := by
  obtain ⟨sa, hsa⟩ := hT.2.2.2 _ hstr
  have hface : ∀ w ∈ lw_face, w.before args s = true := fun w hw => va_tabs (by have := (List.mem_filter.mp hw).2; simp only [Bool.and_eq_true] at this; exact this.1) rfl (hT.1 w hw)
  exact vx_throwS (A := fun _ => False) (free := fun _ => False) (names := ["java/lang/RuntimeException", "java/lang/Exception"]) hx hb hl hown hcls (by decide +kernel) (hts _ hk) (hts _ hini) hsa (vx_hat (B := lw_face) (fun w hw => hts w (hg1 w hw)) hg2 hface) hgood hT.2.1 hT.2.2.1 va_S.rf hsize d0 d3 d4 d6 d9 (fun x hx' => (ht x hx').elim) hRf hRl (by omega) (by omega) hlocks
    (fun t _ h1 h2 => ⟨rfl, h1, fun q hq _ => h2 q hq⟩) (fun z hz => absurd hz List.not_mem_nil) (by omega) (by omega)
end LCALL
