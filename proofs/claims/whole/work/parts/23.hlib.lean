/-! ===== the law's helpers: calls with handlers; an array of one place for the answer ===== -/
abbrev kl_ (κ : Nat → ClassId) : List (ClassId × FieldType) := [(κ 0, .int), (κ 1, .array .int), (κ 2, .boolean), (κ 3, .long), (κ 4, .double)]
def ol_ (κ : Nat → ClassId) (o : Nat) (w : Nat → Int64) : va_W := [(o, .inl (κ 3, 1, .inr (.inl w)))]
def od_ (κ : Nat → ClassId) (o : Nat) (w : Nat → UInt64) : va_W := [(o, .inl (κ 4, 1, .inr (.inr (.inr (.inl w)))))]
/-- what the helpers ask of the launch: throws, and which classes aren't which -/
def ThL (A : Nat → Prop) (U : State) : Prop := ThA A U ∧ va_Nc "java/lang/IllegalStateException" "java/lang/IllegalArgumentException" U ∧ va_Nc "java/lang/IllegalArgumentException" "java/lang/IndexOutOfBoundsException" U ∧ va_Nc "java/lang/IllegalStateException" "java/lang/IndexOutOfBoundsException" U
theorem ThL.to {A : Nat → Prop} {s U : State} {H : Heap} {locs : List Loc} (h : ThL A s) (hW : s.WarmedH U.vm) (hU : U.heap = H) (hS : va_S A s.heap H locs) : ThL (fun _ => False) U :=
  ⟨h.1.to hW hU hS, h.2.1.moved hW.alike, h.2.2.1.moved hW.alike, h.2.2.2.moved hW.alike⟩
theorem ThL.blind {a : Array Value} {U : State} {g : JFrame} {mk : MethodId} (h : ThL (fun _ => False) U) : ThL (fun _ => False) (U.calling g mk a) :=
  ⟨Thr.blind h.1, va_Nc.moved (u := U) (Vm.Alike.refl U.vm) h.2.1, va_Nc.moved (u := U) (Vm.Alike.refl U.vm) h.2.2.1, va_Nc.moved (u := U) (Vm.Alike.refl U.vm) h.2.2.2⟩
def Ph_ (D : va_G) (κ : Nat → ClassId) (a : Nat → Nat) (v : VS) (ow : va_W) (As : List Value) : Array Value → State → Prop := va_Pc As (fun U => va_P D vwCl (xw κ a v) U.heap ∧ va_P D vwCl ow U.heap ∧ va_K D vwCl (kl_ κ) U ∧ ThL (fun _ => False) U)
theorem Ph_blind {D : va_G} {κ : Nat → ClassId} {a : Nat → Nat} {v : VS} {ow : va_W} {As : List Value} : FrameBlind (Ph_ D κ a v ow As) := fun a U g mk q => ⟨q.1, q.2.1, q.2.2.1, va_K.moved (u := U) (U := U.calling g mk a) (Vm.Alike.refl U.vm) q.2.2.2.1, q.2.2.2.2.blind⟩
def Qh_ (D : va_G) (κ : Nat → ClassId) (a : Nat → Nat) (v : VS) (cd : Nat) (Po : Heap → Prop) (A : Nat → Prop) : Array Value → State → Outcome → State → Prop := fun _ st o t => o = .returned (some (.int (nI cd))) ∧ va_P D vwCl (xw κ a v) t.heap ∧ Po t.heap ∧ va_F A st t
abbrev xo_ (a : Nat → Nat) (o : Nat) : Nat → Prop := fun q => xa_ a q ∨ q = o
abbrev rh_ (fr lo : Nat) : Room := { frames := fr, cells := 1, slots := 6, locals := lo }
/-- the answer in the array -/
def Pl_ (D : va_G) (κ : Nat → ClassId) (o cd : Nat) (r : Int64) : Heap → Prop := fun H => ∃ w, va_P D vwCl (ol_ κ o w) H ∧ (cd = 0 → w 0 = r)
def Pd_ (D : va_G) (κ : Nat → ClassId) (o cd : Nat) (r : UInt64) : Heap → Prop := fun H => ∃ w, va_P D vwCl (od_ κ o w) H ∧ (cd = 0 → w 0 = r)
abbrev Hp (l : Launch) (y : MethodName) (b : ByteArray) (n : Nat) (hh : List (Nat × Nat × Nat × Nat)) (fr lo : Nat) (P : Array Value → State → Prop) (D : va_G) (κ : Nat → ClassId) (a : Nat → Nat) (o : Nat) (v : VS) (cd : Nat) (Po : Heap → Prop) : Prop :=
  Met l y (wh_ y b n (some .int) hh) (rh_ fr lo) P (Qh_ D κ a v cd Po (xo_ a o)) 1 6 (xo_ a o)
section HLIB
variable {p : Program} {l : Launch} {e : Env} {R : Room} {s : State} {m : MethodId} {args : Array Value} {below : List Frame} {meth : Method} {c : Code} {H : Heap} {locs : List Loc} {cells slots : Nat} {Q : State → Prop}
variable {D : va_G} {tys : List (ClassId × FieldType)} {ws : va_W} {own : String} {y : MethodName} {bytes cc : ByteArray} {maxL nL index fr lo b ci n pc : Nat} {ret : Option FieldType} {fs As rest st0 : List Value} {q : vw_C} {v : Value} {ls : Array Slot} {P : Array Value → State → Prop} {A : Nat → Prop} {E : String}
variable {κ : Nat → ClassId} {a : Nat → Nat} {vv : VS} {o : Nat}
/-- the call of a method that throws, caught by a row of this method's table -/
theorem tx_catch (S : CallFix p m c cc nL s args lw_all own) (hM : Tx l y bytes maxL ret fr lo (Pt_ D tys ws (.ref b :: As)) E) (hG : GoodIn lw_all (wsV own index q.1 y (ws_ y bytes maxL ret)))
    (hd : y.cls = q.1 ∧ y.cls ≠ "java/lang/invoke/MethodHandle" ∧ y.cls ≠ "java/lang/invoke/VarHandle" ∧ (parseMethodDescriptor y.desc).map (fun d => d.parameters.length) = some n) (hR : fr + 1 ≤ R.frames ∧ 8 + (maxL + 11) + lo ≤ R.locals)
    (hK : va_K D vwCl tys s) (hP : va_P D vwCl ws s.heap) (hT : Thr s) (hc : vwCl[ci]? = some q) (he : ws[0]? = some (b, .inr (ci, fs))) (hn : As.length = n) (hsize : ls.size = nL) (hstack : st0 = As.reverse ++ .ref b :: rest) (hW : (rest.map fun v => v.category).sum ≤ 8)
    (hdg : decode cc pc = .ok (.invokevirtual index, 3)) (hf : 0 + 1 ≤ R.cells ∧ 0 + 6 ≤ R.slots)
    (pre : List ExceptionTableEntry) (x : ExceptionTableEntry) (suf : List ExceptionTableEntry) (hsplit : c.exceptionTable.toList = pre ++ x :: suf)
    (hpass : ∀ z ∈ pre, covers z pc = false ∨ (z.catchType ≠ 0 ∧ ∃ nm : String, (Cond.classLink own z.catchType nm).before args s = true ∧ va_Nc E nm s)) (hx : covers x pc = true) (h0 : x.catchType ≠ 0)
    (hlink : (Cond.classLink own x.catchType E).before args s = true) (hcast : Cond.castable E E ∈ lw_face)
    (kk : ∀ (q9 : Nat) (H1 : Heap), s.heap.size ≤ H1.size → (∀ z : Nat, z < s.heap.size → H1[z]? = s.heap[z]?) → W p l e R s m args below meth c H1 [] (0 + 1) (0 + 6) Q (F0 m x.handlerPc ls [.ref q9])) :
    W p l e R s m args below meth c s.heap [] 0 0 Q (F0 m pc ls st0) := by
  intro T hT9 X
  have hr := vx_runV (rest := rest) (H := s.heap) (l := l) (R := R) (p := p) (e := e) (below := below) (meth := meth) (locs := []) (cells := 0) (slots := 0) (g := F0 m pc ls st0) S hM (cwV n S.2.2.2.2 hG rfl rfl rfl hd hR) (Pt_V hK hP hT va_S.rf hc he) rfl hn hsize hstack (lv_room hW) hdg hf
  rcases hr T hT9 X with ⟨w, st₀, t, T', L, g0, X', hL, e1, e2, hq, st⟩ | ⟨q9, st₀, t, T', L, E', ce, g0, X', hL, e1, e2, ⟨hE, hF⟩, hce, hcv, hcl, st⟩
  · exact hq.elim
  · subst hE
    have hcast' : (Cond.castable E' E').before args s = true := va_tabs rfl rfl (hT.1 _ hcast)
    have X2 : Stand p l e R s m args below meth c T' [] (0 + 1) (0 + 6) := Stand.forget X' (fun q h => (hL q h).elim)
    obtain ⟨t2, a1, b1⟩ := vx_catch (p := p) (l := l) (e := e) (R := R) (m := m) (args := args) (below := below) (meth := meth) (H := t.heap) (locs := []) (cells := 0 + 1) (slots := 0 + 6) (Q := Q) (pc := pc) (ls := ls) (rest := rest) S.2.2.2.1 pre x suf hsplit hpass hx h0 hlink hcast' hce hcv hcl (kk q9 t.heap (by rw [← g0]; exact hF.1) (fun z hz => by rw [← g0] at hz ⊢; exact hF.2 z hz (fun q => q))) T' e1 X2
    exact ⟨t2, st.trans a1, b1⟩
theorem xw_kept {H1 : Heap} (h : va_P D vwCl ws H) (hk : ∀ z : Nat, z < H.size → H1[z]? = H[z]?) : va_P D vwCl ws H1 := h.kept (fun k q hq => hk q.1 (h k q hq).lt)
theorem ol_kept {w : Nat → Int64} {H1 : Heap} (h : va_P D vwCl (ol_ κ o w) H) (ho : ¬ xa_ a o) (hk : ∀ z : Nat, z < H.size → ¬ xa_ a z → H1[z]? = H[z]?) : va_P D vwCl (ol_ κ o w) H1 := by
  refine h.kept (fun k q hq => ?_)
  have hl := (List.getElem?_eq_some_iff.mp hq).1
  have hk0 : k = 0 := by
    have : k < 1 := hl
    omega
  subst hk0
  cases hq
  exact hk o (h 0 _ rfl).lt ho
theorem xo_D (hap : ap_ a 9) (ho : ¬ xa_ a o) (x : va_E) : va_D (xo_ a o) (xw κ a vv ++ [(o, x)]) := by
  refine va_D.app ((xw_D hap κ vv).weaken (fun _ _ _ h => Or.inl h)) ⟨fun i j p q hi hj _ => ?_, fun k q hk => ?_⟩ (fun i j p q hi hj e => ?_)
  · have h1 : i < 1 := (List.getElem?_eq_some_iff.mp hi).1
    have h2 : j < 1 := (List.getElem?_eq_some_iff.mp hj).1
    omega
  · have h1 : k < 1 := (List.getElem?_eq_some_iff.mp hk).1
    have h2 : k = 0 := by omega
    subst h2
    cases hk
    exact Or.inr rfl
  · have h1 : j < 1 := (List.getElem?_eq_some_iff.mp hj).1
    have h2 : j = 0 := by omega
    subst h2
    cases hj
    obtain ⟨h3, h4⟩ := xw_key κ a vv i p hi
    exact ho ⟨i, h3, h4.trans e⟩
theorem hp_store {w : Nat → Int64} {x : Int64} (hx : p.tables.exec = Jvm.exec) (hb : c.code = cc) (hK : va_K D vwCl (kl_ κ) s) (hPx : va_P D vwCl (xw κ a vv) H) (hPo : va_P D vwCl (ol_ κ o w) H) (hap : ap_ a 9) (hoa : ¬ xa_ a o) (hS : va_S (xo_ a o) s.heap H locs) (hdg : decode cc pc = .ok (.lastore, 1))
    (kk : ∀ (H1 : Heap) (locs1 : List Loc), va_P D vwCl (xw κ a vv) H1 → va_P D vwCl (ol_ κ o (vp_updL w 0 x)) H1 → va_S (xo_ a o) s.heap H1 locs1 → W p l e R s m args below meth c H1 locs1 cells slots Q (F0 m (pc + 1) ls rest)) :
    W p l e R s m args below meth c H locs cells slots Q (F0 m pc ls (.long x :: .int (nI 0) :: .ref o :: rest)) := by
  refine va_last (ws := xw κ a vv ++ ol_ κ o w) (cA := κ 3) (n := 1) (f := w) hx hb hK (hPx.app hPo) (xo_D hap hoa _) hS 9 3 rfl rfl (vp_in_nI (by decide) (by decide)) hdg (fun H1 locs1 hP1 _ hS1 => ?_)
  rw [show (nI 0).toNatClampNeg = 0 from nI_clamp (by decide)] at hP1
  exact kk H1 locs1 (hP1.sub [0, 1, 2, 3, 4, 5, 6, 7, 8] rfl) (hP1.sub [9] rfl) hS1
theorem hp_storeD {w : Nat → UInt64} {x : UInt64} (hx : p.tables.exec = Jvm.exec) (hb : c.code = cc) (hK : va_K D vwCl (kl_ κ) s) (hPx : va_P D vwCl (xw κ a vv) H) (hPo : va_P D vwCl (od_ κ o w) H) (hap : ap_ a 9) (hoa : ¬ xa_ a o) (hS : va_S (xo_ a o) s.heap H locs) (hdg : decode cc pc = .ok (.dastore, 1))
    (kk : ∀ (H1 : Heap) (locs1 : List Loc), va_P D vwCl (xw κ a vv) H1 → va_P D vwCl (od_ κ o (vf_upd w 0 x)) H1 → va_S (xo_ a o) s.heap H1 locs1 → W p l e R s m args below meth c H1 locs1 cells slots Q (F0 m (pc + 1) ls rest)) :
    W p l e R s m args below meth c H locs cells slots Q (F0 m pc ls (.double x :: .int (nI 0) :: .ref o :: rest)) := by
  refine va_dast (ws := xw κ a vv ++ od_ κ o w) (cA := κ 4) (n := 1) (f := w) hx hb hK (hPx.app hPo) (xo_D hap hoa _) hS 9 4 rfl rfl (vp_in_nI (by decide) (by decide)) hdg (fun H1 locs1 hP1 _ hS1 => ?_)
  rw [show (nI 0).toNatClampNeg = 0 from nI_clamp (by decide)] at hP1
  exact kk H1 locs1 (hP1.sub [0, 1, 2, 3, 4, 5, 6, 7, 8] rfl) (hP1.sub [9] rfl) hS1
end HLIB
theorem hp_intro {l : Launch} {y : MethodName} {bytes : ByteArray} {n fr lo : Nat} {hh : List (Nat × Nat × Nat × Nat)} {D : va_G} {κ : Nat → ClassId} {a : Nat → Nat} {v v' : VS} {o cd : Nat} {ow : va_W} {As : List Value} {Po : Heap → Prop} (hy : plainName y.cls = true) (hcls : y.cls = RL) (hA : (lg_sl As).length ≤ n)
    (body : ∀ (p : Program) (e : Env) (s : State) (m : MethodId) (args : Array Value) (below : List Frame) (meth : Method) (c : Code) (ls : Array Slot) (Qq : State → Prop), p.tables.exec = Jvm.exec → c.code = bytes → c.maxLocals = n → s.vm.findClass RL = some m.cls → (∀ w ∈ lw_all, w.before args s = true) → va_K D vwCl (kl_ κ) s → va_K D vwCl (kt_ κ) s → va_P D vwCl (xw κ a v) s.heap → va_P D vwCl ow s.heap → va_S (xo_ a o) s.heap s.heap [] → ThL (fun _ => False) s → c.exceptionTable.toList = tableOf hh →
      (∀ (pc : Nat) (ls : Array Slot) (H : Heap) (locs : List Loc) (cells slots : Nat), cells ≤ 1 → slots ≤ 6 → decode bytes pc = .ok (.ireturn, 1) → va_P D vwCl (xw κ a v') H → Po H → va_S (xo_ a o) s.heap H locs → W p l e (rh_ fr lo) s m args below meth c H locs cells slots Qq (F0 m pc ls [.int (nI cd)])) →
      lv_has ls n (lv_args 0 As) → W p l e (rh_ fr lo) s m args below meth c s.heap [] 0 0 Qq (F0 m 0 ls [])) :
    Hp l y bytes n hh fr lo (Ph_ D κ a v ow As) D κ a o v' cd Po := by
  refine va_MetW (cc := bytes) (maxL := n) (ret := some .int) (hh := hh) hy rfl ?_
  intro p e s m args below meth c s₁ B hml hv
  obtain ⟨ha, hPx, hPo, hK, hT⟩ := hv
  have hts0 := atoms_spec (ws := wh_ y bytes n (some .int) hh) B.pre
  have hts : ∀ w ∈ lw_all, w.before args s = true := fun w h => hts0 w (List.mem_cons_of_mem _ h)
  have hown : s.vm.findClass RL = some m.cls := by rw [← hcls]; exact findClass_of_methodNamed B.named
  have hl := lv_entry As hA
  have he : entryFrame m args n = F0 m 0 ((lg_sl As ++ List.replicate (n - (lg_sl As).length) Slot.unset).toArray) [] := by rw [ha]; exact lg_entry_eq m As n
  rw [he]
  have htab := vx_table (x := y) B (hts0 _ List.mem_cons_self)
  have hx := B.exec
  have hb := B.bytes
  have hr := B.returns
  have hlk := B.notSynchronized
  exact body p e s m args below meth c _ _ hx hb hml hown hts hK (hK.sub [0, 1, 2] rfl) hPx hPo va_S.rf hT htab (fun pc ls H locs cells slots h1 h2 d h3 h4 h5 => W.widen (k := 1) (n := 6) h1 h2 (W.iret hx hb hr (fun t ht _ => ⟨rfl, by rw [ht]; exact h3, by rw [ht]; exact h4, h5.F ht⟩) h5.2.2 d hlk)) hl
theorem q_face_IAE : Cond.castable "java/lang/IllegalArgumentException" "java/lang/IllegalArgumentException" ∈ lw_face := List.mem_filter.mpr ⟨by decide +kernel, by decide +kernel⟩
theorem q_face_ISE : Cond.castable "java/lang/IllegalStateException" "java/lang/IllegalStateException" ∈ lw_face := List.mem_filter.mpr ⟨by decide +kernel, by decide +kernel⟩
theorem q_face_IOB : Cond.castable "java/lang/IndexOutOfBoundsException" "java/lang/IndexOutOfBoundsException" ∈ lw_face := List.mem_filter.mpr ⟨by decide +kernel, by decide +kernel⟩
