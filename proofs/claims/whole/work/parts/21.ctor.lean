/-! ===== the constructors ===== -/
def in_ (i j : Nat) : Nat → Nat → Nat := fun s c => if s < i ∨ (s = i ∧ c < j) ∨ 8 ≤ c ∨ 4 ≤ s then 1 else 0
theorem in_s {i j : Nat} : up2 (in_ i j) i j 1 = in_ i (j + 1) := by
  funext s c
  unfold up2 in_
  by_cases q : s = i ∧ c = j
  · rw [if_pos q, if_pos (by omega)]
  · rw [if_neg q]
    by_cases q2 : s < i ∨ (s = i ∧ c < j) ∨ 8 ≤ c ∨ 4 ≤ s
    · rw [if_pos q2, if_pos (by omega)]
    · rw [if_neg q2, if_neg (by omega)]
theorem in_n (i : Nat) : in_ i 8 = in_ (i + 1) 0 := by
  funext s c
  unfold in_
  by_cases q2 : s < i ∨ (s = i ∧ c < 8) ∨ 8 ≤ c ∨ 4 ≤ s
  · rw [if_pos q2, if_pos (by omega)]
  · rw [if_neg q2, if_neg (by omega)]
theorem in_4 : in_ 4 0 = fun _ _ => 1 := by
  funext s c
  unfold in_
  rw [if_pos (by omega)]
/-- the ladder at its start -/
def v1_ : VS := ((0, 0, 0), fun _ => 0, fun _ => 0, fun _ _ => 1, fun _ => false)
set_option maxHeartbeats 4000000 in
set_option maxRecDepth 100000 in
theorem t_X0_init {p : Program} {l : Launch} {e : Env} {R : Room} {s : State} {m : MethodId} {args : Array Value} {below : List Frame} {meth : Method} {c : Code} {Q : State → Prop} {cells slots : Nat} {A : Nat → Prop} (D : va_G) (κ : Nat → ClassId) (a : Nat → Nat) (hDw : ∀ v, va_D A (xw κ a v)) (hx : p.tables.exec = Jvm.exec) (hb : c.code = cX0_init) (hown : s.vm.findClass RX0 = some m.cls) (hts : ∀ w ∈ lw_all, w.before args s = true) (hK : va_K D vwCl (kt_ κ) s) {H : Heap} {locs : List Loc} (hP : va_P D vwCl (xw κ a ((0, 0, 0), (fun _ => 0), (fun _ => 0), in_ 0 0, (fun _ => false))) H) (hS : va_S A s.heap H locs) (hend : ∀ (pc : Nat) (ls : Array Slot) (H : Heap) (locs : List Loc), decode cX0_init pc = .ok (.return_, 1) → va_P D vwCl (xw κ a v1_) H → va_S A s.heap H locs → W p l e R s m args below meth c H locs cells slots Q (F0 m pc ls [])) {ls : Array Slot} (hl : lv_has ls 3 [(0, .ref (a 0))]) : W p l e R s m args below meth c H locs cells slots Q (F0 m 38 ls []) := by
  refine lv_aload_n hx hb dX0_init_38 rfl (lv_at hl 0 rfl) ?_
  refine lv_iconst (v := nI (0)) hx hb dX0_init_39 (by decide) ?_
  refine va_put (D := D) (ci := 0) (v := .int (nI (0))) (ty := .int) (C := RX0) (T := TX0) (N := 7) hx hb hts i_X0 tyX0 tyX0_ok nmX0 hown hK hP (hDw _) hS 0 rfl rfl 4 (by decide) (hts _ q_f_X0_25) (fun _ h9 => h9) rfl (by decide +kernel) rfl rfl (Nat.le_of_ble_eq_true rfl) dX0_init_40 (fun H locs hP _ hS => ?_)
  have hP : va_P D vwCl (xw κ a ((0, 0, 0), (fun _ => 0), (fun _ => 0), in_ 0 0, (fun _ => false))) H := hP
  refine lv_aload_n hx hb dX0_init_43 rfl (lv_at hl 0 rfl) ?_
  refine lv_iconst (v := nI (0)) hx hb dX0_init_44 (by decide) ?_
  refine va_put (D := D) (ci := 0) (v := .int (nI (0))) (ty := .int) (C := RX0) (T := TX0) (N := 7) hx hb hts i_X0 tyX0 tyX0_ok nmX0 hown hK hP (hDw _) hS 0 rfl rfl 5 (by decide) (hts _ q_f_X0_29) (fun _ h9 => h9) rfl (by decide +kernel) rfl rfl (Nat.le_of_ble_eq_true rfl) dX0_init_45 (fun H locs hP _ hS => ?_)
  have hP : va_P D vwCl (xw κ a ((0, 0, 0), (fun _ => 0), (fun _ => 0), in_ 0 0, (fun _ => false))) H := hP
  refine lv_aload_n hx hb dX0_init_48 rfl (lv_at hl 0 rfl) ?_
  refine lv_iconst (v := nI (0)) hx hb dX0_init_49 (by decide) ?_
  refine va_put (D := D) (ci := 0) (v := .int (nI (0))) (ty := .int) (C := RX0) (T := TX0) (N := 7) hx hb hts i_X0 tyX0 tyX0_ok nmX0 hown hK hP (hDw _) hS 0 rfl rfl 6 (by decide) (hts _ q_f_X0_32) (fun _ h9 => h9) rfl (by decide +kernel) rfl rfl (Nat.le_of_ble_eq_true rfl) dX0_init_50 (fun H locs hP _ hS => ?_)
  have hP : va_P D vwCl (xw κ a ((0, 0, 0), (fun _ => 0), (fun _ => 0), in_ 0 0, (fun _ => false))) H := hP
  refine lv_iconst (v := nI (0)) hx hb dX0_init_53 (by decide) ?_
  refine lv_istore_n (lv' := [(1, .int (nI (0))), (0, .ref (a 0))]) hx hb dX0_init_54 rfl hl (by decide) rfl (fun ls hl => ?_)
  suffices hloop_55 : ∀ (n_55 i : Nat) (ls : Array Slot) (H : Heap) (locs : List Loc), i + n_55 = 4 → lv_has ls 3 [(0, .ref (a 0)), (1, .int (nI (i)))] → va_P D vwCl (xw κ a ((0, 0, 0), (fun _ => 0), (fun _ => 0), in_ i 0, (fun _ => false))) H → va_S A s.heap H locs → W p l e R s m args below meth c H locs cells slots Q (F0 m 55 ls []) from hloop_55 (4 - 0) (0) ls H locs (by omega) (lv_sub hl [1, 0] rfl) (by have e9 : xw κ a ((0, 0, 0), (fun _ => 0), (fun _ => 0), in_ 0 0, (fun _ => false)) = xw κ a ((0, 0, 0), (fun _ => 0), (fun _ => 0), in_ (0) 0, (fun _ => false)) := (by rfl); rw [← e9]; exact hP) hS
  intro n_55
  induction n_55 with
  | zero =>
    intro i ls H locs hin_55 hl hP hS
    have hi_55 : i = 4 := by omega
    refine lv_iload_n hx hb dX0_init_55 rfl (lv_at hl 1 rfl) ?_
    refine lv_iconst (v := nI (4)) hx hb dX0_init_56 (by decide) ?_
    refine nv_icmp_ge (tgt := 89) hx hb dX0_init_57 (by decide) (by omega) (by omega) (fun c_57 => ?_) (fun z => absurd z (by omega))
    have hP : va_P D vwCl (xw κ a v1_) H := by
      have e9 : xw κ a ((0, 0, 0), (fun _ => 0), (fun _ => 0), in_ i 0, (fun _ => false)) = xw κ a v1_ := by rw [hi_55]; rfl
      rw [← e9]
      exact hP
    exact hend _ _ _ _ dX0_init_89 hP hS
  | succ n_55 ih_55 =>
    intro i ls H locs hin_55 hl hP hS
    refine lv_iload_n hx hb dX0_init_55 rfl (lv_at hl 1 rfl) ?_
    refine lv_iconst (v := nI (4)) hx hb dX0_init_56 (by decide) ?_
    refine nv_icmp_ge (tgt := 89) hx hb dX0_init_57 (by decide) (by omega) (by omega) (fun z => absurd z (by omega)) (fun c_57 => ?_)
    refine lv_iconst (v := nI (0)) hx hb dX0_init_60 (by decide) ?_
    refine lv_istore_n (lv' := [(2, .int (nI (0))), (0, .ref (a 0)), (1, .int (nI (i)))]) hx hb dX0_init_61 rfl hl (by decide) rfl (fun ls hl => ?_)
    suffices hloop_62 : ∀ (n_62 j : Nat) (ls : Array Slot) (H : Heap) (locs : List Loc), j + n_62 = 8 → lv_has ls 3 [(0, .ref (a 0)), (1, .int (nI (i))), (2, .int (nI (j)))] → va_P D vwCl (xw κ a ((0, 0, 0), (fun _ => 0), (fun _ => 0), in_ i j, (fun _ => false))) H → va_S A s.heap H locs → W p l e R s m args below meth c H locs cells slots Q (F0 m 62 ls []) from hloop_62 (8 - 0) (0) ls H locs (by omega) (lv_sub hl [1, 2, 0] rfl) (by have e9 : xw κ a ((0, 0, 0), (fun _ => 0), (fun _ => 0), in_ i 0, (fun _ => false)) = xw κ a ((0, 0, 0), (fun _ => 0), (fun _ => 0), in_ i (0), (fun _ => false)) := (by rfl); rw [← e9]; exact hP) hS
    intro n_62
    induction n_62 with
    | zero =>
      intro j ls H locs hin_62 hl hP hS
      have hi_62 : j = 8 := by omega
      refine lv_iload_n hx hb dX0_init_62 rfl (lv_at hl 2 rfl) ?_
      refine lv_bipush (v := nI (8)) hx hb dX0_init_63 (by decide) ?_
      refine nv_icmp_ge (tgt := 83) hx hb dX0_init_65 (by decide) (by omega) (by omega) (fun c_65 => ?_) (fun z => absurd z (by omega))
      refine lv_iinc (v := nI (i + 1)) (lv' := [(1, .int (nI (i + 1))), (0, .ref (a 0)), (2, .int (nI (j)))]) hx hb dX0_init_83 hl (k := 1) rfl (nI_add _ _) (by decide) rfl (fun ls hl => ?_)
      refine lv_goto (tgt := 55) hx hb dX0_init_86 (by decide) ?_
      exact ih_55 (i + 1) ls _ _ (by omega) (lv_cast (k := [(0, .ref (a 0)), (1, .int (nI (i + 1)))]) (lv_sub hl [1, 0] rfl) (lc_cons rfl (lc_cons (congrArg (fun z : Nat => ((1 : Nat), Value.int (nI z))) (show (i + 1 : Nat) = (i + 1) from by first | rfl | omega)) rfl))) (by have e9 : xw κ a ((0, 0, 0), (fun _ => 0), (fun _ => 0), in_ i j, (fun _ => false)) = xw κ a ((0, 0, 0), (fun _ => 0), (fun _ => 0), in_ (i + 1) 0, (fun _ => false)) := (by rw [hi_62, in_n]); rw [← e9]; exact hP) hS
    | succ n_62 ih_62 =>
      intro j ls H locs hin_62 hl hP hS
      refine lv_iload_n hx hb dX0_init_62 rfl (lv_at hl 2 rfl) ?_
      refine lv_bipush (v := nI (8)) hx hb dX0_init_63 (by decide) ?_
      refine nv_icmp_ge (tgt := 83) hx hb dX0_init_65 (by decide) (by omega) (by omega) (fun z => absurd z (by omega)) (fun c_65 => ?_)
      refine lv_aload_n hx hb dX0_init_68 rfl (lv_at hl 0 rfl) ?_
      refine va_get (D := D) (ci := 0) (v := .ref (a 3)) (C := RX0) (T := TX0) (N := 7) hx hb hts i_X0 hown hK hP 0 rfl rfl 2 (by decide) (hts _ q_f_X0_18) (fun _ h9 => h9) rfl dX0_init_69 ?_
      refine lv_iload_n hx hb dX0_init_72 rfl (lv_at hl 1 rfl) ?_
      refine nv_aald hx hb hK hP 3 1 (r := a (5 + i)) rfl rfl (by omega) (by decide) (xw_ref (by omega)) dX0_init_73 ?_
      refine lv_iload_n hx hb dX0_init_74 rfl (lv_at hl 2 rfl) ?_
      refine lv_iconst (v := nI (1)) hx hb dX0_init_75 (by decide) ?_
      refine nv_iast hx hb hK hP (hDw _) hS (5 + i) 0 (n := 8) (j := j) (xw_row (by omega)) rfl (by omega) (by decide) (xs_sh (by omega)) dX0_init_76 (fun H locs hP hS => ?_)
      have hP : va_P D vwCl (xw κ a ((0, 0, 0), (fun _ => 0), (fun _ => 0), up2 (in_ i j) i j 1, (fun _ => false))) H := hP
      refine lv_iinc (v := nI (j + 1)) (lv' := [(2, .int (nI (j + 1))), (0, .ref (a 0)), (1, .int (nI (i)))]) hx hb dX0_init_77 hl (k := 2) rfl (nI_add _ _) (by decide) rfl (fun ls hl => ?_)
      refine lv_goto (tgt := 62) hx hb dX0_init_80 (by decide) ?_
      exact ih_62 (j + 1) ls _ _ (by omega) (lv_cast (k := [(0, .ref (a 0)), (1, .int (nI (i))), (2, .int (nI (j + 1)))]) (lv_sub hl [1, 2, 0] rfl) (lc_cons rfl (lc_cons rfl (lc_cons (congrArg (fun z : Nat => ((2 : Nat), Value.int (nI z))) (show (j + 1 : Nat) = (j + 1) from by first | rfl | omega)) rfl)))) (by have e9 : xw κ a ((0, 0, 0), (fun _ => 0), (fun _ => 0), up2 (in_ i j) i j 1, (fun _ => false)) = xw κ a ((0, 0, 0), (fun _ => 0), (fun _ => 0), in_ i (j + 1), (fun _ => false)) := (by rw [in_s]); rw [← e9]; exact hP) hS
/-- what a new object of the class is: its cells, at addresses that are new but its own -/
def Qi_ (D : va_G) (h0 : Nat) : Array Value → State → Outcome → State → Prop := fun _ st o t => o = .returned none ∧ ∃ (κ : Nat → ClassId) (a : Nat → Nat), a 0 = h0 ∧ ap_ a 9 ∧ (∀ k, 0 < k → k < 9 → st.heap.size ≤ a k) ∧ va_P D vwCl (xw κ a v1_) t.heap ∧ va_K D vwCl (kt_ κ) t ∧ va_F (fun q => q = h0) st t
def Qj_ (D : va_G) (h0 : Nat) : Array Value → State → Outcome → State → Prop := fun _ st o t => o = .returned none ∧ ∃ (κ : Nat → ClassId) (b : Nat → Nat), b 0 = h0 ∧ ap_ b 4 ∧ (∀ k, 0 < k → k < 4 → st.heap.size ≤ b k) ∧ va_P D vwCl (mw κ b 0 v1_) t.heap ∧ va_K D vwCl [(κ 0, .int)] t ∧ va_F (fun q => q = h0) st t
theorem ra_one {D : va_G} {cl : List vw_C} {tys : List (ClassId × FieldType)} {U : State} (h : va_K D cl tys U) {i j : Nat} {c1 c2 : ClassId} (h1 : tys[i]? = some (c1, .int)) (h2 : tys[j]? = some (c2, .int)) : c1 = c2 := by
  have a1 : U.vm.findClass ("[" ++ FieldType.int.toString) = some c1 := (h.2 i _ h1).2
  have a2 : U.vm.findClass ("[" ++ FieldType.int.toString) = some c2 := (h.2 j _ h2).2
  exact Option.some.inj (a1.symm.trans a2)
theorem va_AOA.warm {t : FieldType} {s U : State} (hW : s.WarmedH U.vm) (h : va_AOA t s) : va_AOA t U := by
  have h1 := Cond.before_shiftedOver (args := #[]) (State.Shifted.of_warmed hW) (.arrayOver (.array t)) rfl h
  exact h1
theorem arr_congr {c : ClassId} {n : Nat} {f g : Nat → Value} (h : ∀ j, j < n → f j = g j) : arrV c n f = arrV c n g := by
  have e : (fun j : Fin n => f j.val) = fun j : Fin n => g j.val := funext fun j => h j.val j.isLt
  unfold arrV
  rw [e]
/-- fresh objects' fields -/
abbrev x0_ : List Value := [.null, .null, .null, .null, .int 0, .int 0, .int 0]
abbrev m0_ : List Value := [.int 0, .int 0, .int 0, .int 0, .int 0, .null, .null, .null]
def xaddr (h0 q1 q2 q3 q4 : Nat) (r : Nat → Nat) : Nat → Nat
  | 0 => h0
  | 1 => q1
  | 2 => q2
  | 3 => q3
  | 4 => q4
  | k + 5 => r k
def kap_ (c0 c1 c2 : ClassId) : Nat → ClassId
  | 0 => c0
  | 1 => c1
  | _ => c2
theorem xw_get (κ : Nat → ClassId) (a : Nat → Nat) (v : VS) {k : Nat} (h : k < 9) : ∃ e, (xw κ a v)[k]? = some (a k, e) := by
  match k, h with
  | 0, _ => exact ⟨_, rfl⟩
  | 1, _ => exact ⟨_, rfl⟩
  | 2, _ => exact ⟨_, rfl⟩
  | 3, _ => exact ⟨_, rfl⟩
  | 4, _ => exact ⟨_, rfl⟩
  | 5, _ => exact ⟨_, rfl⟩
  | 6, _ => exact ⟨_, rfl⟩
  | 7, _ => exact ⟨_, rfl⟩
  | 8, _ => exact ⟨_, rfl⟩
theorem xw_ap {κ : Nat → ClassId} {a : Nat → Nat} {v : VS} {A : Nat → Prop} (h : va_D A (xw κ a v)) : ap_ a 9 := by
  intro i j hi hj e
  obtain ⟨x, hx⟩ := xw_get κ a v hi
  obtain ⟨y, hy⟩ := xw_get κ a v hj
  exact h.1 i j _ _ hx hy e
theorem mx_get (κ : Nat → ClassId) (b : Nat → Nat) (u c n t r : Nat) (ct so ms : Nat → Nat) {k : Nat} (h : k < 4) : ∃ e, (mx_ κ b u c n t r ct so ms)[k]? = some (b k, e) := by
  match k, h with
  | 0, _ => exact ⟨_, rfl⟩
  | 1, _ => exact ⟨_, rfl⟩
  | 2, _ => exact ⟨_, rfl⟩
  | 3, _ => exact ⟨_, rfl⟩
theorem mx_ap {κ : Nat → ClassId} {b : Nat → Nat} {u c n t r : Nat} {ct so ms : Nat → Nat} {A : Nat → Prop} (h : va_D A (mx_ κ b u c n t r ct so ms)) : ap_ b 4 := by
  intro i j hi hj e
  obtain ⟨x, hx⟩ := mx_get κ b u c n t r ct so ms hi
  obtain ⟨y, hy⟩ := mx_get κ b u c n t r ct so ms hj
  exact h.1 i j _ _ hx hy e
set_option maxHeartbeats 4000000 in
set_option maxRecDepth 100000 in
theorem c_X0_init (l : Launch) (D : va_G) (h0 sz : Nat) : Met l yX0_init (ws_ yX0_init cX0_init 3 none) ({ frames := 1, cells := 8, slots := 60, locals := 12 }) (va_Pc [.ref h0] (fun U => U.heap.size = sz ∧ va_P D vwCl [(h0, .inr (0, x0_))] U.heap ∧ va_K D vwCl [] U ∧ va_AOA .int U)) (Qi_ D h0) 8 60 (fun q => q = h0 ∨ sz ≤ q) := by
  refine Met.ofW (cc := cX0_init) (maxL := 3) (ret := none) (by decide +kernel) rfl ?_
  intro p e s m args below meth c s₁ B hml hv
  obtain ⟨ha, hsz, hP, hK, hO⟩ := hv
  have hx := B.exec
  have hb := B.bytes
  have hr := B.returns
  have hts0 := atoms_spec (ws := ws_ yX0_init cX0_init 3 none) B.pre
  have hts : ∀ w ∈ lw_all, w.before args s = true := fun w h => hts0 w (List.mem_cons_of_mem _ h)
  have hown : s.vm.findClass RX0 = some m.cls := findClass_of_methodNamed B.named
  have hlocks := B.notSynchronized
  have hin : meth.name = "<init>" := (name_of_methodNamed B.named B.method).1
  subst hsz
  have hlt0 : h0 < s.heap.size := (hP 0 _ rfl).lt
  have hD : va_D (fun q => q = h0 ∨ s.heap.size ≤ q) [(h0, .inr (0, x0_))] := by
    refine ⟨fun i j x y hi hj _ => ?_, fun k q hk => ?_⟩
    · have h1 := (List.getElem?_eq_some_iff.mp hi).1
      have h2 := (List.getElem?_eq_some_iff.mp hj).1
      simp at h1 h2
      omega
    · have h1 := (List.getElem?_eq_some_iff.mp hk).1
      simp at h1
      subst h1
      cases hk
      exact Or.inl rfl
  have hA : ∀ q : Nat, s.heap.size ≤ q → (fun q => q = h0 ∨ s.heap.size ≤ q) q := fun q h => Or.inr h
  have hAn : ∀ q : Nat, q < s.heap.size → ¬ q = h0 → ¬ (fun q => q = h0 ∨ s.heap.size ≤ q) q := fun q h1 h2 h3 => h3.elim h2 (fun h4 => absurd h4 (by omega))
  have hAs : ∀ q : Nat, (fun q => q = h0 ∨ s.heap.size ≤ q) q → q = h0 ∨ s.heap.size ≤ q := fun q h => h
  generalize (fun q : Nat => q = h0 ∨ s.heap.size ≤ q) = A at hD hA hAn hAs ⊢
  have hS : va_S A s.heap s.heap [] := va_S.rf
  have hl := lv_entry [.ref h0] (n := 3) (Nat.le_of_ble_eq_true rfl)
  have he : entryFrame m args 3 = F0 m 0 ((lg_sl [.ref h0] ++ List.replicate (3 - (lg_sl [.ref h0]).length) Slot.unset).toArray) [] := by rw [ha]; exact lg_entry_eq m [.ref h0] 3
  rw [he]
  generalize (lg_sl [.ref h0] ++ List.replicate (3 - (lg_sl [.ref h0]).length) Slot.unset).toArray = ls at hl ⊢
  have hl : lv_has ls 3 [(0, .ref h0)] := hl
  refine lv_aload_n hx hb dX0_init_0 rfl (lv_at hl 0 rfl) ?_
  refine W.objInit hx hb hown (hts _ q_ml_X0_1) (hts _ q_im_obj) (hts _ q_c_obj) rfl (by rw [hml]; exact hl.1) rfl dX0_init_1 (Nat.le_of_ble_eq_true rfl) (Nat.le_of_ble_eq_true rfl) ?_
  refine W.eq (g2 := F0 m 4 ls []) rfl ?_
  refine lv_aload_n hx hb dX0_init_4 rfl (lv_at hl 0 rfl) ?_
  refine lv_bipush (v := nI 8) hx hb dX0_init_5 (by decide) ?_
  refine va_newa (atype := .int) (ty := .int) (N' := 8) (a0 := (8, .inl (fun _ => nI 0))) hx hb (hts _ q_ac_int) rfl hK hP hD hS hA (fun _ => rfl) (by decide) (by decide) (by decide) (Nat.le_of_ble_eq_true rfl) (Nat.le_of_ble_eq_true rfl) dX0_init_7 (fun q1 c1 H hK hP hD hS => ?_)
  have hK : va_K D vwCl [(c1, .int)] s := hK
  have hP : va_P D vwCl [(h0, .inr (0, x0_)), (q1, .inl (c1, 8, .inl (fun _ => nI 0)))] H := hP
  have hD : va_D A [(h0, .inr (0, x0_)), (q1, .inl (c1, 8, .inl (fun _ => nI 0)))] := hD
  refine va_putF (D := D) (ci := 0) (v := .ref q1) (ty := .array .int) (C := RX0) (T := TX0) (N := 7) hx hb hts i_X0 tyX0 tyX0_ok nmX0 hown hK hP hD hS 0 rfl rfl 0 (by decide) (hts _ q_f_X0_9) (fun _ h9 => h9) rfl hin rfl (by decide +kernel) rfl rfl (Nat.le_of_ble_eq_true rfl) dX0_init_9 (fun H locs hP hD hS => ?_)
  have hP : va_P D vwCl [(h0, .inr (0, [.ref q1, .null, .null, .null, .int 0, .int 0, .int 0])), (q1, .inl (c1, 8, .inl (fun _ => nI 0)))] H := hP
  have hD : va_D A [(h0, .inr (0, [.ref q1, .null, .null, .null, .int 0, .int 0, .int 0])), (q1, .inl (c1, 8, .inl (fun _ => nI 0)))] := hD
  refine lv_aload_n hx hb dX0_init_12 rfl (lv_at hl 0 rfl) ?_
  refine lv_iconst (v := nI 4) hx hb dX0_init_13 (by decide) ?_
  refine va_newa (atype := .int) (ty := .int) (N' := 4) (a0 := (4, .inl (fun _ => nI 0))) hx hb (hts _ q_ac_int) rfl hK hP hD hS hA (fun _ => rfl) (by decide) (by decide) (by decide) (Nat.le_of_ble_eq_true rfl) (Nat.le_of_ble_eq_true rfl) dX0_init_14 (fun q2 c2 H hK hP hD hS => ?_)
  have hK : va_K D vwCl [(c1, .int), (c2, .int)] s := hK
  obtain rfl : c1 = c2 := ra_one hK (i := 0) (j := 1) rfl rfl
  have hP : va_P D vwCl [(h0, .inr (0, [.ref q1, .null, .null, .null, .int 0, .int 0, .int 0])), (q1, .inl (c1, 8, .inl (fun _ => nI 0))), (q2, .inl (c1, 4, .inl (fun _ => nI 0)))] H := hP
  have hD : va_D A [(h0, .inr (0, [.ref q1, .null, .null, .null, .int 0, .int 0, .int 0])), (q1, .inl (c1, 8, .inl (fun _ => nI 0))), (q2, .inl (c1, 4, .inl (fun _ => nI 0)))] := hD
  refine va_putF (D := D) (ci := 0) (v := .ref q2) (ty := .array .int) (C := RX0) (T := TX0) (N := 7) hx hb hts i_X0 tyX0 tyX0_ok nmX0 hown hK hP hD hS 0 rfl rfl 1 (by decide) (hts _ q_f_X0_13) (fun _ h9 => h9) rfl hin rfl (by decide +kernel) rfl rfl (Nat.le_of_ble_eq_true rfl) dX0_init_16 (fun H locs hP hD hS => ?_)
  have hP : va_P D vwCl [(h0, .inr (0, [.ref q1, .ref q2, .null, .null, .int 0, .int 0, .int 0])), (q1, .inl (c1, 8, .inl (fun _ => nI 0))), (q2, .inl (c1, 4, .inl (fun _ => nI 0)))] H := hP
  have hD : va_D A [(h0, .inr (0, [.ref q1, .ref q2, .null, .null, .int 0, .int 0, .int 0])), (q1, .inl (c1, 8, .inl (fun _ => nI 0))), (q2, .inl (c1, 4, .inl (fun _ => nI 0)))] := hD
  refine lv_aload_n hx hb dX0_init_19 rfl (lv_at hl 0 rfl) ?_
  refine lv_iconst (v := nI 4) hx hb dX0_init_20 (by decide) ?_
  refine lv_bipush (v := nI 8) hx hb dX0_init_21 (by decide) ?_
  refine va_mna (X := [(h0, .inr (0, [.ref q1, .ref q2, .null, .null, .int 0, .int 0, .int 0])), (q1, .inl (c1, 8, .inl (fun _ => nI 0))), (q2, .inl (c1, 4, .inl (fun _ => nI 0)))]) (L := []) (f := fun _ => .inr (0, [])) (N' := 4) (K' := 8) (ty := .int) (cy := c1) (z := (8, .inl (fun j => nI (in_ 0 0 0 j)))) hx hb hown (show (Cond.classLink RX0 16 ("[" ++ (FieldType.array .int).toString)).before args s = true from by rw [show "[" ++ (FieldType.array FieldType.int).toString = "[[I" from by decide +kernel]; exact hts _ q_cl_X0_16) hO (hts _ q_ac_int) (hK.2 0 _ rfl).2 hK hP hD hS hA (by decide) (by decide) (by decide) (by decide) (by decide) (by decide) (by decide) rfl rfl (Nat.le_of_ble_eq_true rfl) (Nat.le_of_ble_eq_true rfl) (fun c9 => ?_) dX0_init_23 (fun q3 r c3 H hr1 hr2 hK hP hD hS => ?_)
  · rw [show Jvm.Free.Multi.innerC c9 8 (defaultValue .int) = arrV c9 8 (fun _ => .int 0) from arrV_new c9 8 (.int 0)]
    refine (show arrV c9 8 (fun _ => .int 0) = arrV c9 8 (fun j => .int (nI (in_ 0 0 0 j))) from arr_congr (fun j hj => ?_))
    show Value.int 0 = Value.int (nI (in_ 0 0 0 j))
    unfold in_
    rw [if_neg (by omega)]
    rfl
  have hK : va_K D vwCl [(c1, .int), (c1, .int), (c3, .array .int)] s := hK
  have e0 : ∀ i, i < 4 → vr_up (fun _ => (.inr (0, []) : va_E)) ((List.range 4).map r) (.inl (c1, 8, .inl (fun j => nI (in_ 0 0 0 j)))) (r i) = .inl (c1, 8, .inl (fun j => nI (in_ 0 0 0 j))) := fun i hi => vr_up_in (List.mem_map.mpr ⟨i, List.mem_range.mpr hi, rfl⟩)
  have e1 : va_pl ([] ++ (List.range 4).map r) (vr_up (fun _ => (.inr (0, []) : va_E)) ((List.range 4).map r) (.inl (c1, 8, .inl (fun j => nI (in_ 0 0 0 j))))) = [(r 0, .inl (c1, 8, .inl (fun j => nI (in_ 0 0 0 j)))), (r 1, .inl (c1, 8, .inl (fun j => nI (in_ 0 0 0 j)))), (r 2, .inl (c1, 8, .inl (fun j => nI (in_ 0 0 0 j)))), (r 3, .inl (c1, 8, .inl (fun j => nI (in_ 0 0 0 j))))] := by
    show [(r 0, vr_up (fun _ => (.inr (0, []) : va_E)) ((List.range 4).map r) (.inl (c1, 8, .inl (fun j => nI (in_ 0 0 0 j)))) (r 0)), (r 1, vr_up (fun _ => (.inr (0, []) : va_E)) ((List.range 4).map r) (.inl (c1, 8, .inl (fun j => nI (in_ 0 0 0 j)))) (r 1)), (r 2, vr_up (fun _ => (.inr (0, []) : va_E)) ((List.range 4).map r) (.inl (c1, 8, .inl (fun j => nI (in_ 0 0 0 j)))) (r 2)), (r 3, vr_up (fun _ => (.inr (0, []) : va_E)) ((List.range 4).map r) (.inl (c1, 8, .inl (fun j => nI (in_ 0 0 0 j)))) (r 3))] = _
    rw [e0 0 (by decide), e0 1 (by decide), e0 2 (by decide), e0 3 (by decide)]
  rw [e1] at hP hD
  have hP : va_P D vwCl [(h0, .inr (0, [.ref q1, .ref q2, .null, .null, .int 0, .int 0, .int 0])), (q1, .inl (c1, 8, .inl (fun _ => nI 0))), (q2, .inl (c1, 4, .inl (fun _ => nI 0))), (q3, .inl (c3, 4, .inr (.inr (.inr (.inr (fun i => if i < 4 then some (r i) else none)))))), (r 0, .inl (c1, 8, .inl (fun j => nI (in_ 0 0 0 j)))), (r 1, .inl (c1, 8, .inl (fun j => nI (in_ 0 0 0 j)))), (r 2, .inl (c1, 8, .inl (fun j => nI (in_ 0 0 0 j)))), (r 3, .inl (c1, 8, .inl (fun j => nI (in_ 0 0 0 j))))] H := hP
  have hD : va_D A [(h0, .inr (0, [.ref q1, .ref q2, .null, .null, .int 0, .int 0, .int 0])), (q1, .inl (c1, 8, .inl (fun _ => nI 0))), (q2, .inl (c1, 4, .inl (fun _ => nI 0))), (q3, .inl (c3, 4, .inr (.inr (.inr (.inr (fun i => if i < 4 then some (r i) else none)))))), (r 0, .inl (c1, 8, .inl (fun j => nI (in_ 0 0 0 j)))), (r 1, .inl (c1, 8, .inl (fun j => nI (in_ 0 0 0 j)))), (r 2, .inl (c1, 8, .inl (fun j => nI (in_ 0 0 0 j)))), (r 3, .inl (c1, 8, .inl (fun j => nI (in_ 0 0 0 j))))] := hD
  refine va_putF (D := D) (ci := 0) (v := .ref q3) (ty := .array (.array .int)) (C := RX0) (T := TX0) (N := 7) hx hb hts i_X0 tyX0 tyX0_ok nmX0 hown hK hP hD hS 0 rfl rfl 2 (by decide) (hts _ q_f_X0_18) (fun _ h9 => h9) rfl hin rfl (by decide +kernel) rfl rfl (Nat.le_of_ble_eq_true rfl) dX0_init_27 (fun H locs hP hD hS => ?_)
  have hP : va_P D vwCl [(h0, .inr (0, [.ref q1, .ref q2, .ref q3, .null, .int 0, .int 0, .int 0])), (q1, .inl (c1, 8, .inl (fun _ => nI 0))), (q2, .inl (c1, 4, .inl (fun _ => nI 0))), (q3, .inl (c3, 4, .inr (.inr (.inr (.inr (fun i => if i < 4 then some (r i) else none)))))), (r 0, .inl (c1, 8, .inl (fun j => nI (in_ 0 0 0 j)))), (r 1, .inl (c1, 8, .inl (fun j => nI (in_ 0 0 0 j)))), (r 2, .inl (c1, 8, .inl (fun j => nI (in_ 0 0 0 j)))), (r 3, .inl (c1, 8, .inl (fun j => nI (in_ 0 0 0 j))))] H := hP
  have hD : va_D A [(h0, .inr (0, [.ref q1, .ref q2, .ref q3, .null, .int 0, .int 0, .int 0])), (q1, .inl (c1, 8, .inl (fun _ => nI 0))), (q2, .inl (c1, 4, .inl (fun _ => nI 0))), (q3, .inl (c3, 4, .inr (.inr (.inr (.inr (fun i => if i < 4 then some (r i) else none)))))), (r 0, .inl (c1, 8, .inl (fun j => nI (in_ 0 0 0 j)))), (r 1, .inl (c1, 8, .inl (fun j => nI (in_ 0 0 0 j)))), (r 2, .inl (c1, 8, .inl (fun j => nI (in_ 0 0 0 j)))), (r 3, .inl (c1, 8, .inl (fun j => nI (in_ 0 0 0 j))))] := hD
  refine lv_aload_n hx hb dX0_init_30 rfl (lv_at hl 0 rfl) ?_
  refine lv_bipush (v := nI 12) hx hb dX0_init_31 (by decide) ?_
  refine va_newa (atype := .boolean) (ty := .boolean) (N' := 12) (a0 := (12, .inl (fun _ => bI false))) hx hb (hts _ q_ac_boolean) rfl hK hP hD hS hA (fun _ => rfl) (by decide) (by decide) (by decide) (Nat.le_of_ble_eq_true rfl) (Nat.le_of_ble_eq_true rfl) dX0_init_33 (fun q4 c4 H hK hP hD hS => ?_)
  have hK : va_K D vwCl [(c1, .int), (c1, .int), (c3, .array .int), (c4, .boolean)] s := hK
  have hP : va_P D vwCl [(h0, .inr (0, [.ref q1, .ref q2, .ref q3, .null, .int 0, .int 0, .int 0])), (q1, .inl (c1, 8, .inl (fun _ => nI 0))), (q2, .inl (c1, 4, .inl (fun _ => nI 0))), (q3, .inl (c3, 4, .inr (.inr (.inr (.inr (fun i => if i < 4 then some (r i) else none)))))), (r 0, .inl (c1, 8, .inl (fun j => nI (in_ 0 0 0 j)))), (r 1, .inl (c1, 8, .inl (fun j => nI (in_ 0 0 0 j)))), (r 2, .inl (c1, 8, .inl (fun j => nI (in_ 0 0 0 j)))), (r 3, .inl (c1, 8, .inl (fun j => nI (in_ 0 0 0 j)))), (q4, .inl (c4, 12, .inl (fun _ => bI false)))] H := hP
  have hD : va_D A [(h0, .inr (0, [.ref q1, .ref q2, .ref q3, .null, .int 0, .int 0, .int 0])), (q1, .inl (c1, 8, .inl (fun _ => nI 0))), (q2, .inl (c1, 4, .inl (fun _ => nI 0))), (q3, .inl (c3, 4, .inr (.inr (.inr (.inr (fun i => if i < 4 then some (r i) else none)))))), (r 0, .inl (c1, 8, .inl (fun j => nI (in_ 0 0 0 j)))), (r 1, .inl (c1, 8, .inl (fun j => nI (in_ 0 0 0 j)))), (r 2, .inl (c1, 8, .inl (fun j => nI (in_ 0 0 0 j)))), (r 3, .inl (c1, 8, .inl (fun j => nI (in_ 0 0 0 j)))), (q4, .inl (c4, 12, .inl (fun _ => bI false)))] := hD
  refine va_putF (D := D) (ci := 0) (v := .ref q4) (ty := .array .boolean) (C := RX0) (T := TX0) (N := 7) hx hb hts i_X0 tyX0 tyX0_ok nmX0 hown hK hP hD hS 0 rfl rfl 3 (by decide) (hts _ q_f_X0_21) (fun _ h9 => h9) rfl hin rfl (by decide +kernel) rfl rfl (Nat.le_of_ble_eq_true rfl) dX0_init_35 (fun H locs hP hD hS => ?_)
  have hP : va_P D vwCl [(h0, .inr (0, [.ref q1, .ref q2, .ref q3, .ref q4, .int 0, .int 0, .int 0])), (q1, .inl (c1, 8, .inl (fun _ => nI 0))), (q2, .inl (c1, 4, .inl (fun _ => nI 0))), (q3, .inl (c3, 4, .inr (.inr (.inr (.inr (fun i => if i < 4 then some (r i) else none)))))), (r 0, .inl (c1, 8, .inl (fun j => nI (in_ 0 0 0 j)))), (r 1, .inl (c1, 8, .inl (fun j => nI (in_ 0 0 0 j)))), (r 2, .inl (c1, 8, .inl (fun j => nI (in_ 0 0 0 j)))), (r 3, .inl (c1, 8, .inl (fun j => nI (in_ 0 0 0 j)))), (q4, .inl (c4, 12, .inl (fun _ => bI false)))] H := hP
  have hD : va_D A [(h0, .inr (0, [.ref q1, .ref q2, .ref q3, .ref q4, .int 0, .int 0, .int 0])), (q1, .inl (c1, 8, .inl (fun _ => nI 0))), (q2, .inl (c1, 4, .inl (fun _ => nI 0))), (q3, .inl (c3, 4, .inr (.inr (.inr (.inr (fun i => if i < 4 then some (r i) else none)))))), (r 0, .inl (c1, 8, .inl (fun j => nI (in_ 0 0 0 j)))), (r 1, .inl (c1, 8, .inl (fun j => nI (in_ 0 0 0 j)))), (r 2, .inl (c1, 8, .inl (fun j => nI (in_ 0 0 0 j)))), (r 3, .inl (c1, 8, .inl (fun j => nI (in_ 0 0 0 j)))), (q4, .inl (c4, 12, .inl (fun _ => bI false)))] := hD
  have hK : va_K D vwCl (kt_ (kap_ c1 c3 c4)) s := hK.sub [0, 2, 3] rfl
  have hw : xw (kap_ c1 c3 c4) (xaddr h0 q1 q2 q3 q4 r) ((0, 0, 0), (fun _ => 0), (fun _ => 0), in_ 0 0, (fun _ => false)) = [(h0, .inr (0, [.ref q1, .ref q2, .ref q3, .ref q4, .int 0, .int 0, .int 0])), (q1, .inl (c1, 8, .inl (fun _ => nI 0))), (q2, .inl (c1, 4, .inl (fun _ => nI 0))), (q3, .inl (c3, 4, .inr (.inr (.inr (.inr (fun i => if i < 4 then some (r i) else none)))))), (q4, .inl (c4, 12, .inl (fun _ => bI false))), (r 0, .inl (c1, 8, .inl (fun j => nI (in_ 0 0 0 j)))), (r 1, .inl (c1, 8, .inl (fun j => nI (in_ 0 0 0 j)))), (r 2, .inl (c1, 8, .inl (fun j => nI (in_ 0 0 0 j)))), (r 3, .inl (c1, 8, .inl (fun j => nI (in_ 0 0 0 j))))] := by
    have er : ∀ s, s < 4 → (fun j => nI (vs_sh (((0, 0, 0), (fun _ => 0), (fun _ => 0), in_ 0 0, (fun _ => false)) : VS) s j)) = fun j => nI (in_ 0 0 0 j) := fun s hs => by
      funext j
      show nI (in_ 0 0 s j) = nI (in_ 0 0 0 j)
      unfold in_
      by_cases q : 8 ≤ j
      · rw [if_pos (by omega), if_pos (by omega)]
      · rw [if_neg (by omega), if_neg (by omega)]
    have eo : (fun j => if j < 4 then some (xaddr h0 q1 q2 q3 q4 r (5 + j)) else none) = fun i => if i < 4 then some (r i) else none := by
      funext j
      rw [Nat.add_comm]
      rfl
    unfold xw
    rw [er 0 (by decide), er 1 (by decide), er 2 (by decide), er 3 (by decide), eo]
    rfl
  have hP : va_P D vwCl (xw (kap_ c1 c3 c4) (xaddr h0 q1 q2 q3 q4 r) ((0, 0, 0), (fun _ => 0), (fun _ => 0), in_ 0 0, (fun _ => false))) H := by
    rw [hw]
    exact hP.sub [0, 1, 2, 3, 8, 4, 5, 6, 7] rfl
  have hD : va_D A (xw (kap_ c1 c3 c4) (xaddr h0 q1 q2 q3 q4 r) ((0, 0, 0), (fun _ => 0), (fun _ => 0), in_ 0 0, (fun _ => false))) := by
    rw [hw]
    exact hD.sub [0, 1, 2, 3, 8, 4, 5, 6, 7] (by decide) rfl
  have hap : ap_ (xaddr h0 q1 q2 q3 q4 r) 9 := xw_ap hD
  have hfr : ∀ k, 0 < k → k < 9 → s.heap.size ≤ xaddr h0 q1 q2 q3 q4 r k := fun k h1 h2 => by
    obtain ⟨e9, he9⟩ := xw_get (kap_ c1 c3 c4) (xaddr h0 q1 q2 q3 q4 r) ((0, 0, 0), (fun _ => 0), (fun _ => 0), in_ 0 0, (fun _ => false)) h2
    rcases hAs _ (hD.2 k _ he9) with z | z
    · exact absurd (hap k 0 h2 (by omega) z) (by omega)
    · exact z
  have hDw : ∀ v, va_D A (xw (kap_ c1 c3 c4) (xaddr h0 q1 q2 q3 q4 r) v) := fun v => by
    refine (xw_D hap (kap_ c1 c3 c4) v).weaken (fun k q hk _ => ?_)
    obtain ⟨h1, h2⟩ := xw_key _ _ _ k q hk
    obtain ⟨e9, he9⟩ := xw_get (kap_ c1 c3 c4) (xaddr h0 q1 q2 q3 q4 r) ((0, 0, 0), (fun _ => 0), (fun _ => 0), in_ 0 0, (fun _ => false)) h1
    rw [← h2]
    exact hD.2 k _ he9
  refine t_X0_init D (kap_ c1 c3 c4) (xaddr h0 q1 q2 q3 q4 r) hDw hx hb hown hts hK hP hS (fun pc ls H locs d hP hS => ?_) hl
  refine W.widen (k := 8) (n := 60) (Nat.le_of_ble_eq_true rfl) (Nat.le_of_ble_eq_true rfl) ?_
  exact W.vret hx hb hr (fun t ht hW => ⟨rfl, kap_ c1 c3 c4, xaddr h0 q1 q2 q3 q4 r, rfl, hap, hfr, by rw [ht]; exact hP, va_K.moved hW.alike hK, by rw [ht]; exact hS.1, fun q h1 h2 => by rw [ht]; exact hS.2.1 q h1 (hAn q h1 h2)⟩) hS.2.2 d hlocks
def maddr (h0 q1 q2 q3 : Nat) : Nat → Nat
  | 0 => h0
  | 1 => q1
  | 2 => q2
  | _ => q3
set_option maxHeartbeats 4000000 in
set_option maxRecDepth 100000 in
theorem c_X1_init (l : Launch) (D : va_G) (h0 sz : Nat) : Met l yX1_init (ws_ yX1_init cX1_init 1 none) ({ frames := 1, cells := 3, slots := 44, locals := 12 }) (va_Pc [.ref h0] (fun U => U.heap.size = sz ∧ va_P D vwCl [(h0, .inr (1, m0_))] U.heap ∧ va_K D vwCl [] U)) (Qj_ D h0) 3 44 (fun q => q = h0 ∨ sz ≤ q) := by
  refine Met.ofW (cc := cX1_init) (maxL := 1) (ret := none) (by decide +kernel) rfl ?_
  intro p e s m args below meth c s₁ B hml hv
  obtain ⟨ha, hsz, hP, hK⟩ := hv
  have hx := B.exec
  have hb := B.bytes
  have hr := B.returns
  have hts0 := atoms_spec (ws := ws_ yX1_init cX1_init 1 none) B.pre
  have hts : ∀ w ∈ lw_all, w.before args s = true := fun w h => hts0 w (List.mem_cons_of_mem _ h)
  have hown : s.vm.findClass RX1 = some m.cls := findClass_of_methodNamed B.named
  have hlocks := B.notSynchronized
  have hin : meth.name = "<init>" := (name_of_methodNamed B.named B.method).1
  subst hsz
  have hD : va_D (fun q => q = h0 ∨ s.heap.size ≤ q) [(h0, .inr (1, m0_))] := by
    refine ⟨fun i j x y hi hj _ => ?_, fun k q hk => ?_⟩
    · have h1 := (List.getElem?_eq_some_iff.mp hi).1
      have h2 := (List.getElem?_eq_some_iff.mp hj).1
      simp at h1 h2
      omega
    · have h1 := (List.getElem?_eq_some_iff.mp hk).1
      simp at h1
      subst h1
      cases hk
      exact Or.inl rfl
  have hA : ∀ q : Nat, s.heap.size ≤ q → (fun q => q = h0 ∨ s.heap.size ≤ q) q := fun q h => Or.inr h
  have hAn : ∀ q : Nat, q < s.heap.size → ¬ q = h0 → ¬ (fun q => q = h0 ∨ s.heap.size ≤ q) q := fun q h1 h2 h3 => h3.elim h2 (fun h4 => absurd h4 (by omega))
  have hAs : ∀ q : Nat, (fun q => q = h0 ∨ s.heap.size ≤ q) q → q = h0 ∨ s.heap.size ≤ q := fun q h => h
  generalize (fun q : Nat => q = h0 ∨ s.heap.size ≤ q) = A at hD hA hAn hAs ⊢
  have hS : va_S A s.heap s.heap [] := va_S.rf
  have hl := lv_entry [.ref h0] (n := 1) (Nat.le_of_ble_eq_true rfl)
  have he : entryFrame m args 1 = F0 m 0 ((lg_sl [.ref h0] ++ List.replicate (1 - (lg_sl [.ref h0]).length) Slot.unset).toArray) [] := by rw [ha]; exact lg_entry_eq m [.ref h0] 1
  rw [he]
  generalize (lg_sl [.ref h0] ++ List.replicate (1 - (lg_sl [.ref h0]).length) Slot.unset).toArray = ls at hl ⊢
  have hl : lv_has ls 1 [(0, .ref h0)] := hl
  refine lv_aload_n hx hb dX1_init_0 rfl (lv_at hl 0 rfl) ?_
  refine W.objInit hx hb hown (hts _ q_ml_X1_1) (hts _ q_im_obj) (hts _ q_c_obj) rfl (by rw [hml]; exact hl.1) rfl dX1_init_1 (Nat.le_of_ble_eq_true rfl) (Nat.le_of_ble_eq_true rfl) ?_
  refine W.eq (g2 := F0 m 4 ls []) rfl ?_
  refine lv_aload_n hx hb dX1_init_4 rfl (lv_at hl 0 rfl) ?_
  refine lv_bipush (v := nI 8) hx hb dX1_init_5 (by decide) ?_
  refine va_newa (atype := .int) (ty := .int) (N' := 8) (a0 := (8, .inl (fun _ => nI 0))) hx hb (hts _ q_ac_int) rfl hK hP hD hS hA (fun _ => rfl) (by decide) (by decide) (by decide) (Nat.le_of_ble_eq_true rfl) (Nat.le_of_ble_eq_true rfl) dX1_init_7 (fun q1 c1 H hK hP hD hS => ?_)
  have hK : va_K D vwCl [(c1, .int)] s := hK
  have hP : va_P D vwCl [(h0, .inr (1, [.int 0, .int 0, .int 0, .int 0, .int 0, .null, .null, .null])), (q1, .inl (c1, 8, .inl (fun _ => nI 0)))] H := hP
  have hD : va_D A [(h0, .inr (1, [.int 0, .int 0, .int 0, .int 0, .int 0, .null, .null, .null])), (q1, .inl (c1, 8, .inl (fun _ => nI 0)))] := hD
  refine va_putF (D := D) (ci := 1) (v := .ref q1) (ty := .array .int) (C := RX1) (T := TX1) (N := 8) hx hb hts i_X1 tyX1 tyX1_ok nmX1 hown hK hP hD hS 0 rfl rfl 5 (by decide) (hts _ q_f_X1_9) (fun _ h9 => h9) rfl hin rfl (by decide +kernel) rfl rfl (Nat.le_of_ble_eq_true rfl) dX1_init_9 (fun H locs hP hD hS => ?_)
  have hP : va_P D vwCl [(h0, .inr (1, [.int 0, .int 0, .int 0, .int 0, .int 0, .ref q1, .null, .null])), (q1, .inl (c1, 8, .inl (fun _ => nI 0)))] H := hP
  have hD : va_D A [(h0, .inr (1, [.int 0, .int 0, .int 0, .int 0, .int 0, .ref q1, .null, .null])), (q1, .inl (c1, 8, .inl (fun _ => nI 0)))] := hD
  refine lv_aload_n hx hb dX1_init_12 rfl (lv_at hl 0 rfl) ?_
  refine lv_iconst (v := nI 4) hx hb dX1_init_13 (by decide) ?_
  refine va_newa (atype := .int) (ty := .int) (N' := 4) (a0 := (4, .inl (fun _ => nI 0))) hx hb (hts _ q_ac_int) rfl hK hP hD hS hA (fun _ => rfl) (by decide) (by decide) (by decide) (Nat.le_of_ble_eq_true rfl) (Nat.le_of_ble_eq_true rfl) dX1_init_14 (fun q2 c2 H hK hP hD hS => ?_)
  have hK : va_K D vwCl [(c1, .int), (c2, .int)] s := hK
  obtain rfl : c1 = c2 := ra_one hK (i := 0) (j := 1) rfl rfl
  have hP : va_P D vwCl [(h0, .inr (1, [.int 0, .int 0, .int 0, .int 0, .int 0, .ref q1, .null, .null])), (q1, .inl (c1, 8, .inl (fun _ => nI 0))), (q2, .inl (c1, 4, .inl (fun _ => nI 0)))] H := hP
  have hD : va_D A [(h0, .inr (1, [.int 0, .int 0, .int 0, .int 0, .int 0, .ref q1, .null, .null])), (q1, .inl (c1, 8, .inl (fun _ => nI 0))), (q2, .inl (c1, 4, .inl (fun _ => nI 0)))] := hD
  refine va_putF (D := D) (ci := 1) (v := .ref q2) (ty := .array .int) (C := RX1) (T := TX1) (N := 8) hx hb hts i_X1 tyX1 tyX1_ok nmX1 hown hK hP hD hS 0 rfl rfl 6 (by decide) (hts _ q_f_X1_13) (fun _ h9 => h9) rfl hin rfl (by decide +kernel) rfl rfl (Nat.le_of_ble_eq_true rfl) dX1_init_16 (fun H locs hP hD hS => ?_)
  have hP : va_P D vwCl [(h0, .inr (1, [.int 0, .int 0, .int 0, .int 0, .int 0, .ref q1, .ref q2, .null])), (q1, .inl (c1, 8, .inl (fun _ => nI 0))), (q2, .inl (c1, 4, .inl (fun _ => nI 0)))] H := hP
  have hD : va_D A [(h0, .inr (1, [.int 0, .int 0, .int 0, .int 0, .int 0, .ref q1, .ref q2, .null])), (q1, .inl (c1, 8, .inl (fun _ => nI 0))), (q2, .inl (c1, 4, .inl (fun _ => nI 0)))] := hD
  refine lv_aload_n hx hb dX1_init_19 rfl (lv_at hl 0 rfl) ?_
  refine lv_bipush (v := nI 32) hx hb dX1_init_20 (by decide) ?_
  refine va_newa (atype := .int) (ty := .int) (N' := 32) (a0 := (32, .inl (fun _ => nI 0))) hx hb (hts _ q_ac_int) rfl hK hP hD hS hA (fun _ => rfl) (by decide) (by decide) (by decide) (Nat.le_of_ble_eq_true rfl) (Nat.le_of_ble_eq_true rfl) dX1_init_22 (fun q3 c2 H hK hP hD hS => ?_)
  have hK : va_K D vwCl [(c1, .int), (c1, .int), (c2, .int)] s := hK
  obtain rfl : c1 = c2 := ra_one hK (i := 0) (j := 2) rfl rfl
  have hP : va_P D vwCl [(h0, .inr (1, [.int 0, .int 0, .int 0, .int 0, .int 0, .ref q1, .ref q2, .null])), (q1, .inl (c1, 8, .inl (fun _ => nI 0))), (q2, .inl (c1, 4, .inl (fun _ => nI 0))), (q3, .inl (c1, 32, .inl (fun _ => nI 0)))] H := hP
  have hD : va_D A [(h0, .inr (1, [.int 0, .int 0, .int 0, .int 0, .int 0, .ref q1, .ref q2, .null])), (q1, .inl (c1, 8, .inl (fun _ => nI 0))), (q2, .inl (c1, 4, .inl (fun _ => nI 0))), (q3, .inl (c1, 32, .inl (fun _ => nI 0)))] := hD
  refine va_putF (D := D) (ci := 1) (v := .ref q3) (ty := .array .int) (C := RX1) (T := TX1) (N := 8) hx hb hts i_X1 tyX1 tyX1_ok nmX1 hown hK hP hD hS 0 rfl rfl 7 (by decide) (hts _ q_f_X1_16) (fun _ h9 => h9) rfl hin rfl (by decide +kernel) rfl rfl (Nat.le_of_ble_eq_true rfl) dX1_init_24 (fun H locs hP hD hS => ?_)
  have hP : va_P D vwCl [(h0, .inr (1, [.int 0, .int 0, .int 0, .int 0, .int 0, .ref q1, .ref q2, .ref q3])), (q1, .inl (c1, 8, .inl (fun _ => nI 0))), (q2, .inl (c1, 4, .inl (fun _ => nI 0))), (q3, .inl (c1, 32, .inl (fun _ => nI 0)))] H := hP
  have hD : va_D A [(h0, .inr (1, [.int 0, .int 0, .int 0, .int 0, .int 0, .ref q1, .ref q2, .ref q3])), (q1, .inl (c1, 8, .inl (fun _ => nI 0))), (q2, .inl (c1, 4, .inl (fun _ => nI 0))), (q3, .inl (c1, 32, .inl (fun _ => nI 0)))] := hD
  have hms : ms_ v1_ = fun _ => 0 := by
    funext j
    unfold ms_
    rw [if_neg (fun z => absurd z.1 (Nat.not_lt_zero _))]
  have hw : mw (fun _ => c1) (maddr h0 q1 q2 q3) 0 v1_ = [(h0, .inr (1, [.int 0, .int 0, .int 0, .int 0, .int 0, .ref q1, .ref q2, .ref q3])), (q1, .inl (c1, 8, .inl (fun _ => nI 0))), (q2, .inl (c1, 4, .inl (fun _ => nI 0))), (q3, .inl (c1, 32, .inl (fun _ => nI 0)))] := by
    unfold mw
    rw [hms]
    rfl
  have hP : va_P D vwCl (mw (fun _ => c1) (maddr h0 q1 q2 q3) 0 v1_) H := by rw [hw]; exact hP
  have hD : va_D A (mw (fun _ => c1) (maddr h0 q1 q2 q3) 0 v1_) := by rw [hw]; exact hD
  have hap : ap_ (maddr h0 q1 q2 q3) 4 := mx_ap hD
  have hfr : ∀ k, 0 < k → k < 4 → s.heap.size ≤ maddr h0 q1 q2 q3 k := fun k h1 h2 => by
    obtain ⟨e9, he9⟩ := mx_get (fun _ => c1) (maddr h0 q1 q2 q3) 0 (vs_c v1_) (vs_n v1_) (vs_t v1_) (rw_ v1_) (vs_ct v1_) (vs_so v1_) (ms_ v1_) h2
    rcases hAs _ (hD.2 k _ he9) with z | z
    · exact absurd (hap k 0 h2 (by omega) z) (by omega)
    · exact z
  have hK : va_K D vwCl [(c1, .int)] s := hK.sub [0] rfl
  refine W.widen (k := 3) (n := 44) (Nat.le_of_ble_eq_true rfl) (Nat.le_of_ble_eq_true rfl) ?_
  exact W.vret hx hb hr (fun t ht hW => ⟨rfl, fun _ => c1, maddr h0 q1 q2 q3, rfl, hap, hfr, by rw [ht]; exact hP, va_K.moved hW.alike hK, by rw [ht]; exact hS.1, fun q h1 h2 => by rw [ht]; exact hS.2.1 q h1 (hAn q h1 h2)⟩) hS.2.2 dX1_init_27 hlocks
