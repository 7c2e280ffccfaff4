/-! ===== the law's start ===== -/
theorem st_strs : ∀ q ∈ lw_strs, Cond.stringRef RX0 q.1 q.2 ∈ lw_tbl := by decide +kernel
theorem start_T {s : State} {b : Nat} {c0 : ClassId} (h0 : s.vm.findClass RX0 = some c0) (hts0 : ∀ w ∈ lw_tbl, w.before (lg1_ b) s = true) (hgv : (Jvm.Cond.and given_1 narrow_1).before (lg1_ b) s = true) : ThL (lA_ s) s := by
  have hg := flat_of_before _ hgv
  refine ⟨⟨fun w hw => ?_, ?_, ?_, fun q hq => ?_⟩, va_Nc.of (hg (.not (.castable "java/lang/IllegalStateException" "java/lang/IllegalArgumentException")) (by decide +kernel)), va_Nc.of (hg (.not (.castable "java/lang/IllegalArgumentException" "java/lang/IndexOutOfBoundsException")) (by decide +kernel)), va_Nc.of (hg (.not (.castable "java/lang/IllegalStateException" "java/lang/IndexOutOfBoundsException")) (by decide +kernel))⟩
  · have h2 := List.mem_filter.mp hw
    have h3 := h2.2
    simp only [Bool.and_eq_true] at h3
    exact va_tabs h3.1 rfl (hts0 w h2.1)
  · exact vx_Zqof (args := lg1_ b) (hts0 _ (List.mem_of_getElem? (i := 233) (by decide +kernel))) (hts0 (.initialized Bundle.tN) (by decide +kernel)) (hg (.isRef (.static Bundle.tN "UNASSIGNED_STACK" Bundle.steD)) (by decide +kernel)) (fun a h => Nat.not_le.mpr h)
  · exact vx_Zqof (args := lg1_ b) (hts0 _ (List.mem_of_getElem? (i := 235) (by decide +kernel))) (hts0 (.initialized Bundle.tN) (by decide +kernel)) (hg (.isRef (.static Bundle.tN "SUPPRESSED_SENTINEL" Bundle.listD)) (by decide +kernel)) (fun a h => Nat.not_le.mpr h)
  · have h1 := hts0 _ (st_strs q hq)
    obtain ⟨-, -, -, sa, -, -, -, -, -, hev⟩ := Cond.stringRef_spec h0 h1
    exact ⟨sa, vk_R.of h1 hev⟩
def kap5 (c0 c1 c2 c3 c4 : ClassId) : Nat → ClassId
  | 0 => c0
  | 1 => c1
  | 2 => c2
  | 3 => c3
  | _ => c4
theorem lds_of {s : State} {κ : Nat → ClassId} {a bb : Nat → Nat} {o1 o2 u : Nat} {e1 e2 : va_E} {v v' : VS} (hD : va_D (lA_ s) (((xw κ a v ++ mw κ bb u v') ++ [(o1, e1)]) ++ [(o2, e2)])) (hap : ap_ a 9) (hbp : ap_ bb 4) : lds_ s a bb o1 o2 := by
  have gx : ∀ k, k < 9 → ∃ e, (((xw κ a v ++ mw κ bb u v') ++ [(o1, e1)]) ++ [(o2, e2)])[k]? = some (a k, e) := by
    intro k hk
    match k, hk with
    | 0, _ => exact ⟨_, rfl⟩
    | 1, _ => exact ⟨_, rfl⟩
    | 2, _ => exact ⟨_, rfl⟩
    | 3, _ => exact ⟨_, rfl⟩
    | 4, _ => exact ⟨_, rfl⟩
    | 5, _ => exact ⟨_, rfl⟩
    | 6, _ => exact ⟨_, rfl⟩
    | 7, _ => exact ⟨_, rfl⟩
    | 8, _ => exact ⟨_, rfl⟩
    | k + 9, h => exact absurd h (by omega)
  have gm : ∀ k, k < 4 → ∃ e, (((xw κ a v ++ mw κ bb u v') ++ [(o1, e1)]) ++ [(o2, e2)])[9 + k]? = some (bb k, e) := by
    intro k hk
    match k, hk with
    | 0, _ => exact ⟨_, rfl⟩
    | 1, _ => exact ⟨_, rfl⟩
    | 2, _ => exact ⟨_, rfl⟩
    | 3, _ => exact ⟨_, rfl⟩
    | k + 4, h => exact absurd h (by omega)
  have g1 : (((xw κ a v ++ mw κ bb u v') ++ [(o1, e1)]) ++ [(o2, e2)])[13]? = some (o1, e1) := rfl
  have g2 : (((xw κ a v ++ mw κ bb u v') ++ [(o1, e1)]) ++ [(o2, e2)])[14]? = some (o2, e2) := rfl
  generalize (((xw κ a v ++ mw κ bb u v') ++ [(o1, e1)]) ++ [(o2, e2)]) = ws at hD gx gm g1 g2
  refine ⟨⟨fun q hq => ?_, fun q hq => ?_, hD.2 _ _ g1, hD.2 _ _ g2⟩, fun hq => ?_, fun hq => ?_, fun hq => ?_, fun hq => ?_, fun h => ?_, fun q hq hq2 => ?_, hap, hbp⟩
  · obtain ⟨k, hk, rfl⟩ := hq
    obtain ⟨e, h⟩ := gx k hk
    exact hD.2 _ _ h
  · obtain ⟨k, hk, rfl⟩ := hq
    obtain ⟨e, h⟩ := gm k hk
    exact hD.2 _ _ h
  · obtain ⟨k, hk, hq⟩ := hq
    obtain ⟨e, h⟩ := gx k hk
    have := hD.1 _ _ _ _ h g1 hq
    omega
  · obtain ⟨k, hk, hq⟩ := hq
    obtain ⟨e, h⟩ := gx k hk
    have := hD.1 _ _ _ _ h g2 hq
    omega
  · obtain ⟨k, hk, hq⟩ := hq
    obtain ⟨e, h⟩ := gm k hk
    have := hD.1 _ _ _ _ h g1 hq
    omega
  · obtain ⟨k, hk, hq⟩ := hq
    obtain ⟨e, h⟩ := gm k hk
    have := hD.1 _ _ _ _ h g2 hq
    omega
  · have := hD.1 _ _ _ _ g1 g2 h
    omega
  · obtain ⟨k, hk, hq⟩ := hq
    obtain ⟨j, hj, hq2⟩ := hq2
    obtain ⟨e, h⟩ := gx k hk
    obtain ⟨e', h'⟩ := gm j hj
    have := hD.1 _ _ _ _ h h' (hq.trans hq2.symm)
    omega
section INIT
variable {p : Program} {l : Launch} {e : Env} {R : Room} {s : State} {m : MethodId} {args : Array Value} {below : List Frame} {meth : Method} {c : Code} {H : Heap} {locs : List Loc} {cells slots : Nat} {Q : State → Prop}
variable {D : va_G} {pc mc ms h0 : Nat} {ls : Array Slot} {rest st0 : List Value} {ar : Array Value} {A : Nat → Prop} {H0 : Heap}
theorem lr_init0 (hr : va_Run p l e R s m args below meth c H locs cells slots mc ms (F0 m pc ls st0) rest (Qi_ D h0 ar) (fun q => q = h0 ∨ H.size ≤ q)) (hS : va_S A H0 H locs) (hA : ∀ q, (q = h0 ∨ H.size ≤ q) → A q)
    (kk : ∀ (κ : Nat → ClassId) (a : Nat → Nat) (H1 : Heap) (locs1 : List Loc), a 0 = h0 → ap_ a 9 → (∀ k, 0 < k → k < 9 → H.size ≤ a k) → va_P D vwCl (xw κ a v1_) H1 → va_K D vwCl (kt_ κ) s → va_S A H0 H1 locs1 → W p l e R s m args below meth c H1 locs1 (cells + mc) (slots + ms) Q (F0 m (pc + 3) ls rest)) :
    W p l e R s m args below meth c H locs cells slots Q (F0 m pc ls st0) := by
  intro T hT X
  obtain ⟨w9, st₀, t, T', L1, e0, X', hL1, e1, e2, ⟨hv, κ, a, ha0, hap, haf, hPx, hKx, hF⟩, st⟩ := hr T hT X
  cases hv
  have hvm : s.vm.Alike t.vm := by rw [← e2]; exact X'.warmed.alike
  have hF2 : va_F (fun q => q = h0 ∨ H.size ≤ q) st₀ t := ⟨hF.1, fun q h1 h2 => hF.2 q h1 (fun z => h2 (Or.inl z))⟩
  obtain ⟨t2, a1, b1⟩ := kk κ a t.heap (locs ++ L1) ha0 hap (fun k h1 h2 => by rw [← e0]; exact haf k h1 h2) hPx (va_K.moved hvm.symm hKx) (hS.step e0 hF2 hA hL1) T' e1 X'
  exact ⟨t2, st t2 a1, b1⟩
theorem lr_init1 (hr : va_Run p l e R s m args below meth c H locs cells slots mc ms (F0 m pc ls st0) rest (Qj_ D h0 ar) (fun q => q = h0 ∨ H.size ≤ q)) (hS : va_S A H0 H locs) (hA : ∀ q, (q = h0 ∨ H.size ≤ q) → A q)
    (kk : ∀ (κ : Nat → ClassId) (a : Nat → Nat) (H1 : Heap) (locs1 : List Loc), a 0 = h0 → ap_ a 4 → (∀ k, 0 < k → k < 4 → H.size ≤ a k) → va_P D vwCl (mw κ a 0 v1_) H1 → va_K D vwCl [(κ 0, .int)] s → va_S A H0 H1 locs1 → (∀ z : Nat, z < H.size → ¬ z = h0 → H1[z]? = H[z]?) → W p l e R s m args below meth c H1 locs1 (cells + mc) (slots + ms) Q (F0 m (pc + 3) ls rest)) :
    W p l e R s m args below meth c H locs cells slots Q (F0 m pc ls st0) := by
  intro T hT X
  obtain ⟨w9, st₀, t, T', L1, e0, X', hL1, e1, e2, ⟨hv, κ, a, ha0, hap, haf, hPx, hKx, hF⟩, st⟩ := hr T hT X
  cases hv
  have hvm : s.vm.Alike t.vm := by rw [← e2]; exact X'.warmed.alike
  have hF2 : va_F (fun q => q = h0 ∨ H.size ≤ q) st₀ t := ⟨hF.1, fun q h1 h2 => hF.2 q h1 (fun z => h2 (Or.inl z))⟩
  obtain ⟨t2, a1, b1⟩ := kk κ a t.heap (locs ++ L1) ha0 hap (fun k h1 h2 => by rw [← e0]; exact haf k h1 h2) hPx (va_K.moved hvm.symm hKx) (hS.step e0 hF2 hA hL1) (fun z h1 h2 => by rw [← e0] at h1 ⊢; exact hF.2 z h1 h2) T' e1 X'
  exact ⟨t2, st t2 a1, b1⟩
end INIT
