/-! ===== the worlds: the class' object and its arrays, the reference's ===== -/
/-- the cells of the class' object: a 0 itself, a 1 tenths, a 2 odds, a 3 the rows' array, a 4 tosses, a 5 .. a 8 the rows -/
def xw (κ : Nat → ClassId) (a : Nat → Nat) (v : VS) : va_W :=
  [(a 0, .inr (0, [.ref (a 1), .ref (a 2), .ref (a 3), .ref (a 4), .int (nI (vs_c v)), .int (nI (vs_n v)), .int (nI (vs_t v))])),
   (a 1, .inl (κ 0, 8, .inl (fun j => nI (vs_ct v j)))),
   (a 2, .inl (κ 0, 4, .inl (fun j => nI (vs_so v j)))),
   (a 3, .inl (κ 1, 4, .inr (.inr (.inr (.inr (fun j => if j < 4 then some (a (5 + j)) else none)))))),
   (a 4, .inl (κ 2, 12, .inl (fun j => bI (vs_th v j)))),
   (a 5, .inl (κ 0, 8, .inl (fun j => nI (vs_sh v 0 j)))),
   (a 6, .inl (κ 0, 8, .inl (fun j => nI (vs_sh v 1 j)))),
   (a 7, .inl (κ 0, 8, .inl (fun j => nI (vs_sh v 2 j)))),
   (a 8, .inl (κ 0, 8, .inl (fun j => nI (vs_sh v 3 j))))]
abbrev kt_ (κ : Nat → ClassId) : List (ClassId × FieldType) := [(κ 0, .int), (κ 1, .array .int), (κ 2, .boolean)]
theorem xw_row {κ : Nat → ClassId} {a : Nat → Nat} {v : VS} {s : Nat} (h : s < 4) : (xw κ a v)[5 + s]? = some (a (5 + s), .inl (κ 0, 8, .inl (fun j => nI (vs_sh v s j)))) := by
  match s, h with
  | 0, _ => rfl
  | 1, _ => rfl
  | 2, _ => rfl
  | 3, _ => rfl
theorem xw_ref {a : Nat → Nat} {s : Nat} (h : s < 4) : (fun j => if j < 4 then some (a (5 + j)) else none) s = some (a (5 + s)) := if_pos h
/-- tosses as bits -/
def rn_ (f : Nat → Bool) : Nat → Nat
  | 0 => 0
  | n + 1 => rn_ f n + (if f n then 2 ^ n else 0)
def rw_ (v : VS) : Nat := rn_ (vs_th v) (vs_t v)
/-- the reference's shares: place 4 * coin + school; what isn't given yet is 0 -/
def ms_ (v : VS) (j : Nat) : Nat := if j % 4 < vs_n v ∧ j / 4 < vs_c v then vs_sh v (j % 4) (j / 4) else 0
/-- the cells of the reference's object: b 0 itself, b 1 tenths, b 2 odds, b 3 shares -/
def mx_ (κ : Nat → ClassId) (b : Nat → Nat) (u c n t r : Nat) (ct so ms : Nat → Nat) : va_W :=
  [(b 0, .inr (1, [.int (nI u), .int (nI c), .int (nI n), .int (nI t), .int (nI r), .ref (b 1), .ref (b 2), .ref (b 3)])),
   (b 1, .inl (κ 0, 8, .inl (fun j => nI (ct j)))),
   (b 2, .inl (κ 0, 4, .inl (fun j => nI (so j)))),
   (b 3, .inl (κ 0, 32, .inl (fun j => nI (ms j))))]
def mw (κ : Nat → ClassId) (b : Nat → Nat) (u : Nat) (v : VS) : va_W := mx_ κ b u (vs_c v) (vs_n v) (vs_t v) (rw_ v) (vs_ct v) (vs_so v) (ms_ v)
theorem lv_cast {ls : Array Slot} {n : Nat} {k k' : List (Nat × Value)} (h : lv_has ls n k) (e : k = k') : lv_has ls n k' := e ▸ h
/-! ===== how a method's proof begins ===== -/
section INTRO
variable {l : Launch} {y : MethodName} {bytes : ByteArray} {n fr lo : Nat} {ret : Option FieldType} {D : va_G} {tys : List (ClassId × FieldType)} {ws : va_W} {As : List Value}
theorem rd_intro {own : String} {v : Value} {ri : Instr} (hy : plainName y.cls = true) (hcls : y.cls = own) (hA : (lg_sl As).length ≤ n)
    (hret : ∀ (p : Program) (e : Env) (s : State) (m : MethodId) (args : Array Value) (below : List Frame) (meth : Method) (c : Code) (pc : Nat) (ls : Array Slot), p.tables.exec = Jvm.exec → c.code = bytes → meth.sig.returnType = ret → meth.locks = false → decode bytes pc = .ok (ri, 1) →
      W p l e (rm_ fr lo) s m args below meth c s.heap [] 0 0 (MQ below (Qr v) args s 0 0 (fun _ => False)) (F0 m pc ls [v]))
    (body : ∀ (p : Program) (e : Env) (s : State) (m : MethodId) (args : Array Value) (below : List Frame) (meth : Method) (c : Code) (ls : Array Slot) (Qq : State → Prop), p.tables.exec = Jvm.exec → c.code = bytes → c.maxLocals = n → s.vm.findClass own = some m.cls → (∀ w ∈ lw_all, w.before args s = true) → va_K D vwCl tys s → va_P D vwCl ws s.heap →
      (∀ (pc : Nat) (ls : Array Slot), decode bytes pc = .ok (ri, 1) → W p l e (rm_ fr lo) s m args below meth c s.heap [] 0 0 Qq (F0 m pc ls [v])) → lv_has ls n (lv_args 0 As) → W p l e (rm_ fr lo) s m args below meth c s.heap [] 0 0 Qq (F0 m 0 ls [])) :
    Rd l y bytes n ret fr lo (Pw D tys ws As) v := by
  refine Met.ofW (cc := bytes) (maxL := n) (ret := ret) hy rfl ?_
  intro p e s m args below meth c s₁ B hml hv
  obtain ⟨ha, hP, hK⟩ := hv
  have hts0 := atoms_spec (ws := ws_ y bytes n ret) B.pre
  have hts : ∀ w ∈ lw_all, w.before args s = true := fun w h => hts0 w (List.mem_cons_of_mem _ h)
  have hown : s.vm.findClass own = some m.cls := by rw [← hcls]; exact findClass_of_methodNamed B.named
  have hl := lv_entry As hA
  have he : entryFrame m args n = F0 m 0 ((lg_sl As ++ List.replicate (n - (lg_sl As).length) Slot.unset).toArray) [] := by rw [ha]; exact lg_entry_eq m As n
  rw [he]
  exact body p e s m args below meth c _ _ B.exec B.bytes hml hown hts hK hP (fun pc ls d => hret p e s m args below meth c pc ls B.exec B.bytes B.returns B.notSynchronized d) hl
theorem rd_introS {own : String} {v : Value} {ri : Instr} (hy : plainName y.cls = true) (hcls : y.cls = own) (hA : (lg_sl As).length ≤ n)
    (hret : ∀ (p : Program) (e : Env) (s : State) (m : MethodId) (args : Array Value) (below : List Frame) (meth : Method) (c : Code) (pc : Nat) (ls : Array Slot), p.tables.exec = Jvm.exec → c.code = bytes → meth.sig.returnType = ret → meth.locks = false → decode bytes pc = .ok (ri, 1) →
      W p l e (rm_ fr lo) s m args below meth c s.heap [] 0 0 (MQ below (Qr v) args s 0 0 (fun _ => False)) (F0 m pc ls [v]))
    (body : ∀ (p : Program) (e : Env) (s : State) (m : MethodId) (args : Array Value) (below : List Frame) (meth : Method) (c : Code) (ls : Array Slot) (Qq : State → Prop), p.tables.exec = Jvm.exec → c.code = bytes → c.maxLocals = n → s.vm.findClass own = some m.cls → (∀ w ∈ lw_all, w.before args s = true) →
      (∀ (pc : Nat) (ls : Array Slot), decode bytes pc = .ok (ri, 1) → W p l e (rm_ fr lo) s m args below meth c s.heap [] 0 0 Qq (F0 m pc ls [v])) → lv_has ls n (lv_args 0 As) → W p l e (rm_ fr lo) s m args below meth c s.heap [] 0 0 Qq (F0 m 0 ls [])) :
    Rd l y bytes n ret fr lo (Pn As) v := by
  refine Met.ofW (cc := bytes) (maxL := n) (ret := ret) hy rfl ?_
  intro p e s m args below meth c s₁ B hml ha
  have hts0 := atoms_spec (ws := ws_ y bytes n ret) B.pre
  have hts : ∀ w ∈ lw_all, w.before args s = true := fun w h => hts0 w (List.mem_cons_of_mem _ h)
  have hown : s.vm.findClass own = some m.cls := by rw [← hcls]; exact findClass_of_methodNamed B.named
  have hl := lv_entry As hA
  have he : entryFrame m args n = F0 m 0 ((lg_sl As ++ List.replicate (n - (lg_sl As).length) Slot.unset).toArray) [] := by rw [show args = As.toArray from ha]; exact lg_entry_eq m As n
  rw [he]
  exact body p e s m args below meth c _ _ B.exec B.bytes hml hown hts (fun pc ls d => hret p e s m args below meth c pc ls B.exec B.bytes B.returns B.notSynchronized d) hl
/-- a read that answers nothing -/
theorem rn_intro {own : String} (hy : plainName y.cls = true) (hcls : y.cls = own) (hA : (lg_sl As).length ≤ n)
    (body : ∀ (p : Program) (e : Env) (s : State) (m : MethodId) (args : Array Value) (below : List Frame) (meth : Method) (c : Code) (ls : Array Slot) (Qq : State → Prop), p.tables.exec = Jvm.exec → c.code = bytes → c.maxLocals = n → s.vm.findClass own = some m.cls → (∀ w ∈ lw_all, w.before args s = true) → va_K D vwCl tys s → va_P D vwCl ws s.heap →
      (∀ (pc : Nat) (ls : Array Slot), decode bytes pc = .ok (.return_, 1) → W p l e (rm_ fr lo) s m args below meth c s.heap [] 0 0 Qq (F0 m pc ls [])) → lv_has ls n (lv_args 0 As) → W p l e (rm_ fr lo) s m args below meth c s.heap [] 0 0 Qq (F0 m 0 ls [])) :
    Rn l y bytes n none fr lo (Pw D tys ws As) := by
  refine Met.ofW (cc := bytes) (maxL := n) (ret := none) hy rfl ?_
  intro p e s m args below meth c s₁ B hml hv
  obtain ⟨ha, hP, hK⟩ := hv
  have hts0 := atoms_spec (ws := ws_ y bytes n none) B.pre
  have hts : ∀ w ∈ lw_all, w.before args s = true := fun w h => hts0 w (List.mem_cons_of_mem _ h)
  have hown : s.vm.findClass own = some m.cls := by rw [← hcls]; exact findClass_of_methodNamed B.named
  have hl := lv_entry As hA
  have he : entryFrame m args n = F0 m 0 ((lg_sl As ++ List.replicate (n - (lg_sl As).length) Slot.unset).toArray) [] := by rw [ha]; exact lg_entry_eq m As n
  rw [he]
  exact body p e s m args below meth c _ _ B.exec B.bytes hml hown hts hK hP (fun pc ls d => W.vret B.exec B.bytes B.returns (fun t ht _ => ⟨rfl, ht⟩) (fun q hq => absurd hq List.not_mem_nil) d B.notSynchronized) hl
section RETS
variable {p : Program} {e : Env} {s : State} {m : MethodId} {args : Array Value} {below : List Frame} {meth : Method} {c : Code} {pc : Nat} {ls : Array Slot}
theorem ret_I {x : Int32} (hx : p.tables.exec = Jvm.exec) (hb : c.code = bytes) (hr : meth.sig.returnType = some .int) (hlocks : meth.locks = false) (d : decode bytes pc = .ok (.ireturn, 1)) :
    W p l e (rm_ fr lo) s m args below meth c s.heap [] 0 0 (MQ below (Qr (.int x)) args s 0 0 (fun _ => False)) (F0 m pc ls [.int x]) :=
  W.iret hx hb hr (fun t ht _ => ⟨rfl, ht⟩) (fun q hq => absurd hq List.not_mem_nil) d hlocks
theorem ret_Z {x : Bool} (hx : p.tables.exec = Jvm.exec) (hb : c.code = bytes) (hr : meth.sig.returnType = some .boolean) (hlocks : meth.locks = false) (d : decode bytes pc = .ok (.ireturn, 1)) :
    W p l e (rm_ fr lo) s m args below meth c s.heap [] 0 0 (MQ below (Qr (.int (bI x))) args s 0 0 (fun _ => False)) (F0 m pc ls [.int (bI x)]) :=
  W.zret hx hb hr (nar_z x) (fun t ht _ => ⟨rfl, ht⟩) (fun q hq => absurd hq List.not_mem_nil) d hlocks
theorem ret_L {x : Int64} (hx : p.tables.exec = Jvm.exec) (hb : c.code = bytes) (hr : meth.sig.returnType = some .long) (hlocks : meth.locks = false) (d : decode bytes pc = .ok (.lreturn, 1)) :
    W p l e (rm_ fr lo) s m args below meth c s.heap [] 0 0 (MQ below (Qr (.long x)) args s 0 0 (fun _ => False)) (F0 m pc ls [.long x]) :=
  W.lret hx hb hr (fun t ht _ => ⟨rfl, ht⟩) (fun q hq => absurd hq List.not_mem_nil) d hlocks
theorem ret_D {x : UInt64} (hx : p.tables.exec = Jvm.exec) (hb : c.code = bytes) (hr : meth.sig.returnType = some .double) (hlocks : meth.locks = false) (d : decode bytes pc = .ok (.dreturn, 1)) :
    W p l e (rm_ fr lo) s m args below meth c s.heap [] 0 0 (MQ below (Qr (.double x)) args s 0 0 (fun _ => False)) (F0 m pc ls [.double x]) :=
  W.dret hx hb hr (fun t ht _ => ⟨rfl, ht⟩) (fun q hq => absurd hq List.not_mem_nil) d hlocks
end RETS
end INTRO
