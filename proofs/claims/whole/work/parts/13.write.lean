/-! ===== writing, throwing: worlds that change, how such proofs begin ===== -/
/-- an index among n -/
def ix_ (x : Int32) (n : Nat) : Bool := decide (0 ≤ x.toInt ∧ x.toInt < (n : Int))
/-- a number from a to b -/
def ir_ (x : Int32) (a b : Nat) : Bool := decide ((a : Int) ≤ x.toInt ∧ x.toInt ≤ (b : Int))
theorem i0_lt {x : Int32} : x < 0 ↔ x.toInt < 0 := by rw [Int32.lt_iff_toInt_lt]; rfl
theorem iN_lt {x : Int32} {n : Nat} (hn : n < 2 ^ 31) : x < nI n ↔ x.toInt < (n : Int) := by rw [Int32.lt_iff_toInt_lt, nI_toInt hn]
theorem iN_gt {x : Int32} {n : Nat} (hn : n < 2 ^ 31) : nI n < x ↔ (n : Int) < x.toInt := by rw [Int32.lt_iff_toInt_lt, nI_toInt hn]
theorem iN_le {x : Int32} {n : Nat} (hn : n < 2 ^ 31) : x ≤ nI n ↔ x.toInt ≤ (n : Int) := by rw [Int32.le_iff_toInt_le, nI_toInt hn]
theorem iN_ge {x : Int32} {n : Nat} (hn : n < 2 ^ 31) : nI n ≤ x ↔ (n : Int) ≤ x.toInt := by rw [Int32.le_iff_toInt_le, nI_toInt hn]
theorem ix_no {x : Int32} {n : Nat} (h : ix_ x n = false) (h1 : ¬ x < 0) (hn : n < 2 ^ 31) : ¬ x < nI n := by
  intro h2
  rw [i0_lt] at h1
  rw [iN_lt hn] at h2
  have := of_decide_eq_false h
  omega
theorem ix_yes {x : Int32} {n : Nat} (h : ix_ x n = true) (hn : n < 2 ^ 31) : ∃ j, j < n ∧ x = nI j := by
  have h1 := of_decide_eq_true h
  refine ⟨x.toInt.toNat, by omega, Int32.toInt.inj ?_⟩
  rw [nI_toInt (by omega)]
  omega
theorem ix_nI {j n : Nat} (hj : j < n) (hn : n < 2 ^ 31) : ix_ (nI j) n = true := by
  unfold ix_
  rw [nI_toInt (by omega)]
  exact decide_eq_true (by omega)
theorem ir_yes {x : Int32} {a b : Nat} (h : ir_ x a b = true) (hb : b < 2 ^ 31) : ∃ j, a ≤ j ∧ j ≤ b ∧ x = nI j := by
  have h1 := of_decide_eq_true h
  refine ⟨x.toInt.toNat, by omega, by omega, Int32.toInt.inj ?_⟩
  rw [nI_toInt (by omega)]
  omega
theorem ir_no {x : Int32} {a b : Nat} (h : ir_ x a b = false) (ha : a < 2 ^ 31) (h1 : ¬ x < nI a) (hb : b < 2 ^ 31) : ¬ x ≤ nI b := by
  intro h2
  rw [iN_lt ha] at h1
  rw [iN_le hb] at h2
  have := of_decide_eq_false h
  omega
/-! numbers by place -/
def upN (f : Nat → Nat) (k x : Nat) : Nat → Nat := fun j => if j = k then x else f j
def upB (f : Nat → Bool) (k : Nat) (x : Bool) : Nat → Bool := fun j => if j = k then x else f j
def up2 (f : Nat → Nat → Nat) (s c x : Nat) : Nat → Nat → Nat := fun i j => if i = s ∧ j = c then x else f i j
theorem upd_nI (f : Nat → Nat) (k x : Nat) : upd (fun j => nI (f j)) k (nI x) = fun j => nI (upN f k x j) := by
  funext j
  unfold upd upN
  split <;> rfl
theorem upd_bI (f : Nat → Bool) (k : Nat) (x : Bool) : upd (fun j => bI (f j)) k (bI x) = fun j => bI (upB f k x j) := by
  funext j
  unfold upd upB
  split <;> rfl
/-! what stands apart -/
def xa_ (a : Nat → Nat) : Nat → Prop := fun q => ∃ k, k < 9 ∧ a k = q
def ma_ (b : Nat → Nat) : Nat → Prop := fun q => ∃ k, k < 4 ∧ b k = q
def ap_ (a : Nat → Nat) (n : Nat) : Prop := ∀ i j, i < n → j < n → a i = a j → i = j
theorem xw_key (κ : Nat → ClassId) (a : Nat → Nat) (v : VS) : ∀ (k : Nat) (q : Nat × va_E), (xw κ a v)[k]? = some q → k < 9 ∧ a k = q.1 := by
  intro k q h
  have hk : k < 9 := (List.getElem?_eq_some_iff.mp h).1
  refine ⟨hk, ?_⟩
  match k, hk with
  | 0, _ => cases h; rfl
  | 1, _ => cases h; rfl
  | 2, _ => cases h; rfl
  | 3, _ => cases h; rfl
  | 4, _ => cases h; rfl
  | 5, _ => cases h; rfl
  | 6, _ => cases h; rfl
  | 7, _ => cases h; rfl
  | 8, _ => cases h; rfl
theorem xw_D {a : Nat → Nat} (h : ap_ a 9) (κ : Nat → ClassId) (v : VS) : va_D (xa_ a) (xw κ a v) := by
  refine ⟨fun i j p q hi hj e => ?_, fun k q hk => ?_⟩
  · obtain ⟨h1, h2⟩ := xw_key κ a v i p hi
    obtain ⟨h3, h4⟩ := xw_key κ a v j q hj
    exact h i j h1 h3 (by rw [h2, h4, e])
  · obtain ⟨h1, h2⟩ := xw_key κ a v k q hk
    exact ⟨k, h1, h2⟩
theorem mx_key (κ : Nat → ClassId) (b : Nat → Nat) (u c n t r : Nat) (ct so ms : Nat → Nat) : ∀ (k : Nat) (q : Nat × va_E), (mx_ κ b u c n t r ct so ms)[k]? = some q → k < 4 ∧ b k = q.1 := by
  intro k q h
  have hk : k < 4 := (List.getElem?_eq_some_iff.mp h).1
  refine ⟨hk, ?_⟩
  match k, hk with
  | 0, _ => cases h; rfl
  | 1, _ => cases h; rfl
  | 2, _ => cases h; rfl
  | 3, _ => cases h; rfl
theorem mx_D {b : Nat → Nat} (h : ap_ b 4) (κ : Nat → ClassId) (u c n t r : Nat) (ct so ms : Nat → Nat) : va_D (ma_ b) (mx_ κ b u c n t r ct so ms) := by
  refine ⟨fun i j p q hi hj e => ?_, fun k q hk => ?_⟩
  · obtain ⟨h1, h2⟩ := mx_key κ b u c n t r ct so ms i p hi
    obtain ⟨h3, h4⟩ := mx_key κ b u c n t r ct so ms j q hj
    exact h i j h1 h3 (by rw [h2, h4, e])
  · obtain ⟨h1, h2⟩ := mx_key κ b u c n t r ct so ms k q hk
    exact ⟨k, h1, h2⟩
/-! arrays that are written, of the worlds -/
theorem xs_ct {κ : Nat → ClassId} {a : Nat → Nat} {c n t : Nat} {f so : Nat → Nat} {sh : Nat → Nat → Nat} {th : Nat → Bool} {k x : Nat} :
    (xw κ a ((c, n, t), f, so, sh, th)).set 1 (a 1, .inl (κ 0, 8, .inl (upd (fun j => nI (f j)) k (nI x)))) = xw κ a ((c, n, t), upN f k x, so, sh, th) := by rw [upd_nI]; rfl
theorem xs_so {κ : Nat → ClassId} {a : Nat → Nat} {c n t : Nat} {ct f : Nat → Nat} {sh : Nat → Nat → Nat} {th : Nat → Bool} {k x : Nat} :
    (xw κ a ((c, n, t), ct, f, sh, th)).set 2 (a 2, .inl (κ 0, 4, .inl (upd (fun j => nI (f j)) k (nI x)))) = xw κ a ((c, n, t), ct, upN f k x, sh, th) := by rw [upd_nI]; rfl
theorem xs_th {κ : Nat → ClassId} {a : Nat → Nat} {c n t : Nat} {ct so : Nat → Nat} {sh : Nat → Nat → Nat} {f : Nat → Bool} {k : Nat} {x : Bool} :
    (xw κ a ((c, n, t), ct, so, sh, f)).set 4 (a 4, .inl (κ 2, 12, .inl (upd (fun j => bI (f j)) k (bI x)))) = xw κ a ((c, n, t), ct, so, sh, upB f k x) := by rw [upd_bI]; rfl
theorem up2_row (f : Nat → Nat → Nat) (s c x : Nat) : (fun j => nI (up2 f s c x s j)) = upd (fun j => nI (f s j)) c (nI x) := by
  funext j
  unfold up2 upd
  simp only [true_and]
  split <;> rfl
theorem up2_off (f : Nat → Nat → Nat) {s i : Nat} (c x : Nat) (h : i ≠ s) : (fun j => nI (up2 f s c x i j)) = fun j => nI (f i j) := by
  funext j
  unfold up2
  rw [if_neg (fun z => h z.1)]
theorem xs_sh {κ : Nat → ClassId} {a : Nat → Nat} {c n t : Nat} {ct so : Nat → Nat} {f : Nat → Nat → Nat} {th : Nat → Bool} {s k x : Nat} (hs : s < 4) :
    (xw κ a ((c, n, t), ct, so, f, th)).set (5 + s) (a (5 + s), .inl (κ 0, 8, .inl (upd (fun j => nI (f s j)) k (nI x)))) = xw κ a ((c, n, t), ct, so, up2 f s k x, th) := by
  have e0 : ∀ i, i ≠ s → (fun j => nI (vs_sh (((c, n, t), ct, so, up2 f s k x, th) : VS) i j)) = fun j => nI (f i j) := fun i h => up2_off f k x h
  have e1 : (fun j => nI (vs_sh (((c, n, t), ct, so, up2 f s k x, th) : VS) s j)) = upd (fun j => nI (f s j)) k (nI x) := up2_row f s k x
  unfold xw
  match s, hs with
  | 0, _ => rw [e0 1 (by decide), e0 2 (by decide), e0 3 (by decide), e1]; rfl
  | 1, _ => rw [e0 0 (by decide), e0 2 (by decide), e0 3 (by decide), e1]; rfl
  | 2, _ => rw [e0 0 (by decide), e0 1 (by decide), e0 3 (by decide), e1]; rfl
  | 3, _ => rw [e0 0 (by decide), e0 1 (by decide), e0 2 (by decide), e1]; rfl
theorem ms_ct {κ : Nat → ClassId} {b : Nat → Nat} {u c n t r : Nat} {f so ms : Nat → Nat} {k x : Nat} :
    (mx_ κ b u c n t r f so ms).set 1 (b 1, .inl (κ 0, 8, .inl (upd (fun j => nI (f j)) k (nI x)))) = mx_ κ b u c n t r (upN f k x) so ms := by rw [upd_nI]; rfl
theorem ms_so {κ : Nat → ClassId} {b : Nat → Nat} {u c n t r : Nat} {ct f ms : Nat → Nat} {k x : Nat} :
    (mx_ κ b u c n t r ct f ms).set 2 (b 2, .inl (κ 0, 4, .inl (upd (fun j => nI (f j)) k (nI x)))) = mx_ κ b u c n t r ct (upN f k x) ms := by rw [upd_nI]; rfl
theorem ms_ms {κ : Nat → ClassId} {b : Nat → Nat} {u c n t r : Nat} {ct so f : Nat → Nat} {k x : Nat} :
    (mx_ κ b u c n t r ct so f).set 3 (b 3, .inl (κ 0, 32, .inl (upd (fun j => nI (f j)) k (nI x)))) = mx_ κ b u c n t r ct so (upN f k x) := by rw [upd_nI]; rfl
section NWR
variable {p : Program} {l : Launch} {e : Env} {R : Room} {s : State} {m : MethodId} {args : Array Value} {below : List Frame} {meth : Method} {c : Code} {H : Heap} {locs : List Loc} {cells slots : Nat} {Q : State → Prop}
variable {cc : ByteArray} {pc : Nat} {ls : Array Slot} {rest : List Value}
variable {D : va_G} {cl : List vw_C} {tys : List (ClassId × FieldType)} {ws ws' : va_W} {a : Nat} {A : Nat → Prop} {H0 : Heap}
theorem nv_iast (hx : p.tables.exec = Jvm.exec) (hb : c.code = cc) (hK : va_K D cl tys s) (hP : va_P D cl ws H) (hD : va_D A ws) (hS : va_S A H0 H locs) (q0 t0 : Nat) {cA : ClassId} {n j : Nat} {f : Nat → Int32} {x : Int32} (ha : ws[q0]? = some (a, .inl (cA, n, .inl f))) (ht : tys[t0]? = some (cA, .int)) (hj : j < n) (hn : n < 2 ^ 31) (he : ws.set q0 (a, .inl (cA, n, .inl (upd f j x))) = ws') (hdg : decode cc pc = .ok (.iastore, 1))
    (kk : ∀ (H1 : Heap) (locs1 : List Loc), va_P D cl ws' H1 → va_S A H0 H1 locs1 → W p l e R s m args below meth c H1 locs1 cells slots Q (F0 m (pc + 1) ls rest)) : W p l e R s m args below meth c H locs cells slots Q (F0 m pc ls (.int x :: .int (nI j) :: .ref a :: rest)) :=
  va_iast hx hb hK hP hD hS q0 t0 ha ht (vp_in_nI hj hn) hdg (fun H1 locs1 hP1 _ hS1 => kk H1 locs1 (by rw [nI_clamp (by omega), he] at hP1; exact hP1) hS1)
theorem nv_zast (hx : p.tables.exec = Jvm.exec) (hb : c.code = cc) (hK : va_K D cl tys s) (hP : va_P D cl ws H) (hD : va_D A ws) (hS : va_S A H0 H locs) (q0 t0 : Nat) {cA : ClassId} {n j : Nat} {f : Nat → Int32} {x : Bool} (ha : ws[q0]? = some (a, .inl (cA, n, .inl f))) (ht : tys[t0]? = some (cA, .boolean)) (hj : j < n) (hn : n < 2 ^ 31) (he : ws.set q0 (a, .inl (cA, n, .inl (upd f j (bI x)))) = ws') (hdg : decode cc pc = .ok (.bastore, 1))
    (kk : ∀ (H1 : Heap) (locs1 : List Loc), va_P D cl ws' H1 → va_S A H0 H1 locs1 → W p l e R s m args below meth c H1 locs1 cells slots Q (F0 m (pc + 1) ls rest)) : W p l e R s m args below meth c H locs cells slots Q (F0 m pc ls (.int (bI x) :: .int (nI j) :: .ref a :: rest)) :=
  va_zast hx hb hK hP hD hS q0 t0 ha ht (vp_in_nI hj hn) hdg (fun H1 locs1 hP1 _ hS1 => kk H1 locs1 (by rw [nI_clamp (by omega), nar_vz, he] at hP1; exact hP1) hS1)
end NWR
section INTRO2
variable {l : Launch} {y : MethodName} {bytes : ByteArray} {n fr lo : Nat} {ret : Option FieldType} {D : va_G} {tys : List (ClassId × FieldType)} {ws ws' : va_W} {As : List Value} {A : Nat → Prop}
theorem wr_intro {own : String} {v : Option Value} {ri : Instr} (hy : plainName y.cls = true) (hcls : y.cls = own) (hA : (lg_sl As).length ≤ n)
    (hret : ∀ (p : Program) (e : Env) (s : State) (m : MethodId) (args : Array Value) (below : List Frame) (meth : Method) (c : Code) (pc : Nat) (ls : Array Slot) (H : Heap) (locs : List Loc), p.tables.exec = Jvm.exec → c.code = bytes → meth.sig.returnType = ret → meth.locks = false → decode bytes pc = .ok (ri, 1) → va_P D vwCl ws' H → va_S A s.heap H locs →
      W p l e (rm_ fr lo) s m args below meth c H locs 0 0 (MQ below (Qx D ws' A v) args s 0 0 A) (F0 m pc ls v.toList))
    (body : ∀ (p : Program) (e : Env) (s : State) (m : MethodId) (args : Array Value) (below : List Frame) (meth : Method) (c : Code) (ls : Array Slot) (Qq : State → Prop), p.tables.exec = Jvm.exec → c.code = bytes → c.maxLocals = n → s.vm.findClass own = some m.cls → (∀ w ∈ lw_all, w.before args s = true) → va_K D vwCl tys s → va_P D vwCl ws s.heap → va_S A s.heap s.heap [] →
      (∀ (pc : Nat) (ls : Array Slot) (H : Heap) (locs : List Loc), decode bytes pc = .ok (ri, 1) → va_P D vwCl ws' H → va_S A s.heap H locs → W p l e (rm_ fr lo) s m args below meth c H locs 0 0 Qq (F0 m pc ls v.toList)) → lv_has ls n (lv_args 0 As) → W p l e (rm_ fr lo) s m args below meth c s.heap [] 0 0 Qq (F0 m 0 ls [])) :
    Wr l y bytes n ret fr lo (Pw D tys ws As) D ws' A v := by
  refine Met.ofW (cc := bytes) (maxL := n) (ret := ret) hy rfl ?_
  intro p e s m args below meth c s₁ B hml hv
  obtain ⟨ha, hP, hK⟩ := hv
  have hts0 := atoms_spec (ws := ws_ y bytes n ret) B.pre
  have hts : ∀ w ∈ lw_all, w.before args s = true := fun w h => hts0 w (List.mem_cons_of_mem _ h)
  have hown : s.vm.findClass own = some m.cls := by rw [← hcls]; exact findClass_of_methodNamed B.named
  have hl := lv_entry As hA
  have he : entryFrame m args n = F0 m 0 ((lg_sl As ++ List.replicate (n - (lg_sl As).length) Slot.unset).toArray) [] := by rw [ha]; exact lg_entry_eq m As n
  rw [he]
  exact body p e s m args below meth c _ _ B.exec B.bytes hml hown hts hK hP va_S.rf (fun pc ls H locs d h1 h2 => hret p e s m args below meth c pc ls H locs B.exec B.bytes B.returns B.notSynchronized d h1 h2) hl
section RETS2
variable {p : Program} {e : Env} {s : State} {m : MethodId} {args : Array Value} {below : List Frame} {meth : Method} {c : Code} {pc : Nat} {ls : Array Slot} {H : Heap} {locs : List Loc}
theorem rew_I {x : Int32} (hx : p.tables.exec = Jvm.exec) (hb : c.code = bytes) (hr : meth.sig.returnType = some .int) (hlocks : meth.locks = false) (d : decode bytes pc = .ok (.ireturn, 1)) (hP : va_P D vwCl ws' H) (hS : va_S A s.heap H locs) :
    W p l e (rm_ fr lo) s m args below meth c H locs 0 0 (MQ below (Qx D ws' A (some (.int x))) args s 0 0 A) (F0 m pc ls [.int x]) :=
  W.iret hx hb hr (fun t ht _ => ⟨rfl, by rw [ht]; exact hP, hS.F ht⟩) hS.2.2 d hlocks
theorem rew_Z {x : Bool} (hx : p.tables.exec = Jvm.exec) (hb : c.code = bytes) (hr : meth.sig.returnType = some .boolean) (hlocks : meth.locks = false) (d : decode bytes pc = .ok (.ireturn, 1)) (hP : va_P D vwCl ws' H) (hS : va_S A s.heap H locs) :
    W p l e (rm_ fr lo) s m args below meth c H locs 0 0 (MQ below (Qx D ws' A (some (.int (bI x)))) args s 0 0 A) (F0 m pc ls [.int (bI x)]) :=
  W.zret hx hb hr (nar_z x) (fun t ht _ => ⟨rfl, by rw [ht]; exact hP, hS.F ht⟩) hS.2.2 d hlocks
theorem rew_L {x : Int64} (hx : p.tables.exec = Jvm.exec) (hb : c.code = bytes) (hr : meth.sig.returnType = some .long) (hlocks : meth.locks = false) (d : decode bytes pc = .ok (.lreturn, 1)) (hP : va_P D vwCl ws' H) (hS : va_S A s.heap H locs) :
    W p l e (rm_ fr lo) s m args below meth c H locs 0 0 (MQ below (Qx D ws' A (some (.long x))) args s 0 0 A) (F0 m pc ls [.long x]) :=
  W.lret hx hb hr (fun t ht _ => ⟨rfl, by rw [ht]; exact hP, hS.F ht⟩) hS.2.2 d hlocks
theorem rew_D {x : UInt64} (hx : p.tables.exec = Jvm.exec) (hb : c.code = bytes) (hr : meth.sig.returnType = some .double) (hlocks : meth.locks = false) (d : decode bytes pc = .ok (.dreturn, 1)) (hP : va_P D vwCl ws' H) (hS : va_S A s.heap H locs) :
    W p l e (rm_ fr lo) s m args below meth c H locs 0 0 (MQ below (Qx D ws' A (some (.double x))) args s 0 0 A) (F0 m pc ls [.double x]) :=
  W.dret hx hb hr (fun t ht _ => ⟨rfl, by rw [ht]; exact hP, hS.F ht⟩) hS.2.2 d hlocks
theorem rew_V (hx : p.tables.exec = Jvm.exec) (hb : c.code = bytes) (hr : meth.sig.returnType = none) (hlocks : meth.locks = false) (d : decode bytes pc = .ok (.return_, 1)) (hP : va_P D vwCl ws' H) (hS : va_S A s.heap H locs) :
    W p l e (rm_ fr lo) s m args below meth c H locs 0 0 (MQ below (Qx D ws' A none) args s 0 0 A) (F0 m pc ls []) :=
  W.vret hx hb hr (fun t ht _ => ⟨rfl, by rw [ht]; exact hP, hS.F ht⟩) hS.2.2 d hlocks
end RETS2
theorem tx_intro {own E : String} (hy : plainName y.cls = true) (hcls : y.cls = own) (hA : (lg_sl As).length ≤ n)
    (body : ∀ (p : Program) (e : Env) (s : State) (m : MethodId) (args : Array Value) (below : List Frame) (meth : Method) (c : Code) (ls : Array Slot), p.tables.exec = Jvm.exec → c.code = bytes → c.maxLocals = n → s.vm.findClass own = some m.cls → (∀ w ∈ lw_all, w.before args s = true) → va_K D vwCl tys s → va_P D vwCl ws s.heap → Thr s → (∀ x ∈ c.exceptionTable.toList, False) → meth.locks = false →
      lv_has ls n (lv_args 0 As) → W p l e (rx_ fr lo) s m args below meth c s.heap [] 0 0 (vx_MQ below Qf (XE E) args s 1 6 (fun _ => False)) (F0 m 0 ls [])) :
    Tx l y bytes n ret fr lo (Pt_ D tys ws As) E := by
  refine vx_ofW (cc := bytes) (maxL := n) (ret := ret) hy rfl ?_
  intro p e s m args below meth c s₁ B hml ht hv
  obtain ⟨ha, hP, hK, hT⟩ := hv
  have hts0 := atoms_spec (ws := ws_ y bytes n ret) B.pre
  have hts : ∀ w ∈ lw_all, w.before args s = true := fun w h => hts0 w (List.mem_cons_of_mem _ h)
  have hown : s.vm.findClass own = some m.cls := by rw [← hcls]; exact findClass_of_methodNamed B.named
  have hl := lv_entry As hA
  have he : entryFrame m args n = F0 m 0 ((lg_sl As ++ List.replicate (n - (lg_sl As).length) Slot.unset).toArray) [] := by rw [ha]; exact lg_entry_eq m As n
  rw [he]
  exact body p e s m args below meth c _ B.exec B.bytes hml hown hts hK hP hT ht B.notSynchronized hl
theorem tx_introS {own E : String} (hy : plainName y.cls = true) (hcls : y.cls = own) (hA : (lg_sl As).length ≤ n)
    (body : ∀ (p : Program) (e : Env) (s : State) (m : MethodId) (args : Array Value) (below : List Frame) (meth : Method) (c : Code) (ls : Array Slot), p.tables.exec = Jvm.exec → c.code = bytes → c.maxLocals = n → s.vm.findClass own = some m.cls → (∀ w ∈ lw_all, w.before args s = true) → Thr s → (∀ x ∈ c.exceptionTable.toList, False) → meth.locks = false →
      lv_has ls n (lv_args 0 As) → W p l e (rx_ fr lo) s m args below meth c s.heap [] 0 0 (vx_MQ below Qf (XE E) args s 1 6 (fun _ => False)) (F0 m 0 ls [])) :
    Tx l y bytes n ret fr lo (Pnt As) E := by
  refine vx_ofW (cc := bytes) (maxL := n) (ret := ret) hy rfl ?_
  intro p e s m args below meth c s₁ B hml ht hv
  obtain ⟨ha, hT⟩ := hv
  have hts0 := atoms_spec (ws := ws_ y bytes n ret) B.pre
  have hts : ∀ w ∈ lw_all, w.before args s = true := fun w h => hts0 w (List.mem_cons_of_mem _ h)
  have hown : s.vm.findClass own = some m.cls := by rw [← hcls]; exact findClass_of_methodNamed B.named
  have hl := lv_entry As hA
  have he : entryFrame m args n = F0 m 0 ((lg_sl As ++ List.replicate (n - (lg_sl As).length) Slot.unset).toArray) [] := by rw [ha]; exact lg_entry_eq m As n
  rw [he]
  exact body p e s m args below meth c _ B.exec B.bytes hml hown hts hT ht B.notSynchronized hl
end INTRO2
