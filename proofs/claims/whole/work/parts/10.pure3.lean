/-! ===== facts for the public reads ===== -/
theorem la_pos {v : VS} {a b : Nat} (h : 0 < wl_ v a b) : la_ v a b = nI (ld_ v a b (vs_c v)) := if_neg (by omega)
theorem la_zero {v : VS} {a b : Nat} (h : wl_ v a b = 0) : la_ v a b = -1 := if_pos h
theorem nI_nm1 {n : Nat} (h : n < 2 ^ 31) : ¬ nI n = -1 := by
  intro e
  have h2 := congrArg Int32.toInt e
  rw [nI_toInt h] at h2
  have h3 : (-1 : Int32).toInt = -1 := by decide
  omega
theorem ld_le (v : VS) (a b : Nat) : ∀ n, ld_ v a b n ≤ n
  | 0 => Nat.le_refl 0
  | n + 1 => Nat.le_of_lt (ld_lt v a b (n + 1) (by omega))
theorem lsc_le (v : VS) (a b : Nat) : ∀ n, lsc_ v a b n ≤ n
  | 0 => Nat.le_refl 0
  | n + 1 => Nat.le_of_lt (lsc_lt v a b (n + 1) (by omega))
/-! schools -/
theorem sc_pos {v : VS} {a b : Nat} : 0 < wl_ v a b ↔ ∃ s, s < vs_n v ∧ 0 < sc_ v s a b := by
  rw [wl_pos]
  constructor
  · rintro ⟨c, h1, h2⟩
    have hg : 0 < gv_ v c := Nat.pos_of_mul_pos_right h2
    have hl : 0 < lk_ v c a b := Nat.pos_of_mul_pos_left h2
    obtain ⟨s, h3, h4⟩ := sm_pos _ hg
    exact ⟨s, h3, Nat.lt_of_lt_of_le (Nat.mul_pos h4 hl) (sm_le1 (f := fun c => pr_ v s c a b) _ c h1)⟩
  · rintro ⟨s, h1, h2⟩
    obtain ⟨c, h3, h4⟩ := sm_pos _ h2
    have hs : 0 < sw_ v s c := Nat.pos_of_mul_pos_right h4
    have hl : 0 < lk_ v c a b := Nat.pos_of_mul_pos_left h4
    exact ⟨c, h3, Nat.mul_pos (Nat.lt_of_lt_of_le hs (sm_le1 (f := fun s => sw_ v s c) _ s h1)) hl⟩
theorem lsc_max (v : VS) (a b : Nat) : ∀ n i, i < n → sc_ v i a b ≤ sc_ v (lsc_ v a b n) a b
  | n + 1, i, h => by
    simp only [lsc_]
    rcases Nat.lt_or_ge i n with q | q
    · have h1 := lsc_max v a b n i q
      split
      · omega
      · exact h1
    · have e : i = n := by omega
      subst e
      split
      · exact Nat.le_refl _
      · omega
theorem gs2_max (v : VS) (a b : Nat) : ∀ n i, i < n → sc_ v i a b ≤ gs2_ v a b n
  | n + 1, i, h => lsc_max v a b (n + 1) i h
theorem gs2_zero {v : VS} {a b : Nat} (h : wl_ v a b = 0) : gs2_ v a b (vs_n v) = 0 := by
  rcases Nat.eq_zero_or_pos (vs_n v) with q | q
  · rw [q]; rfl
  · obtain ⟨k, hk⟩ : ∃ k, vs_n v = k + 1 := ⟨vs_n v - 1, by omega⟩
    have h3 := lsc_lt v a b _ q
    rcases Nat.eq_zero_or_pos (sc_ v (lsc_ v a b (vs_n v)) a b) with z | z
    · rw [hk] at z ⊢; exact z
    · have := sc_pos.mpr ⟨_, h3, z⟩
      omega
theorem ls2_pos {v : VS} {a b : Nat} (h : 0 < wl_ v a b) : ls2_ v a b (vs_n v) = nI (lsc_ v a b (vs_n v)) := by
  obtain ⟨s, h1, h2⟩ := sc_pos.mp h
  have := gs2_max v a b _ s h1
  exact if_neg (by omega)
theorem ls2_zero {v : VS} {a b : Nat} (h : wl_ v a b = 0) : ls2_ v a b (vs_n v) = -1 := if_pos (gs2_zero h)
theorem ls2_ne {v : VS} (hv : ok_v v) {a b : Nat} (h : 0 < wl_ v a b) : ¬ ls2_ v a b (vs_n v) = -1 := by
  rw [ls2_pos h]
  have h1 := lsc_le v a b (vs_n v)
  have h2 := hv.2.1
  exact nI_nm1 (by omega)
/-! the leader behind a toss -/
def lb_ (v : VS) (h : Bool) : Nat := if h then ld_ v (hh_ v + 1) (tt_ v) (vs_c v) else ld_ v (hh_ v) (tt_ v + 1) (vs_c v)
theorem lb_t {v : VS} {h : Bool} (hp : 0 < ch_ v h (hh_ v) (tt_ v)) (e : h = true) : la_ v (hh_ v + 1) (tt_ v) = nI (lb_ v h) := by
  subst e
  exact la_pos hp
theorem lb_f {v : VS} {h : Bool} (hp : 0 < ch_ v h (hh_ v) (tt_ v)) (e : h = false) : la_ v (hh_ v) (tt_ v + 1) = nI (lb_ v h) := by
  subst e
  exact la_pos hp
theorem lb_le (v : VS) (h : Bool) : lb_ v h ≤ vs_c v := by
  unfold lb_
  split <;> exact ld_le _ _ _ _
/-! tosses to lead -/
theorem sr_hit {P : Nat → Bool} {n i : Nat} (hn : 0 < n) (h : P i = true) : sr_ P n i = nI i := by
  obtain ⟨m, rfl⟩ : ∃ m, n = m + 1 := ⟨n - 1, by omega⟩
  simp [sr_, h]
theorem sr_miss {P : Nat → Bool} {n i : Nat} (hn : 0 < n) (h : P i = false) : sr_ P n i = sr_ P (n - 1) (i + 1) := by
  obtain ⟨m, rfl⟩ : ∃ m, n = m + 1 := ⟨n - 1, by omega⟩
  simp [sr_, h]
theorem ttl_end {v : VS} {c i : Nat} (hj : tl_ v c = sr_ (tp_ v c) (13 - vs_t v - i) i) (hi : i = 13 - vs_t v) : (-1 : Int32) = tl_ v c := by
  rw [hj, show 13 - vs_t v - i = 0 by omega]
  rfl
theorem ttl_hit1 {v : VS} (hv : ok_v v) {c i : Nat} (hc : c < vs_c v) (hj : tl_ v c = sr_ (tp_ v c) (13 - vs_t v - i) i) (hi : i < 13 - vs_t v) (h : la_ v (hh_ v + i) (tt_ v) = nI c) : nI i = tl_ v c := by
  rw [hj, sr_hit (by omega)]
  unfold tp_
  rw [(la_eq v hv hc).mp h]
  rfl
theorem ttl_hit2 {v : VS} (hv : ok_v v) {c i : Nat} (hc : c < vs_c v) (hj : tl_ v c = sr_ (tp_ v c) (13 - vs_t v - i) i) (hi : i < 13 - vs_t v) (h : la_ v (hh_ v) (tt_ v + i) = nI c) : nI i = tl_ v c := by
  rw [hj, sr_hit (by omega)]
  unfold tp_
  rw [(la_eq v hv hc).mp h, Bool.or_true]
theorem ttl_miss {v : VS} (hv : ok_v v) {c i : Nat} (hc : c < vs_c v) (hj : tl_ v c = sr_ (tp_ v c) (13 - vs_t v - i) i) (hi : i < 13 - vs_t v) (h1 : ¬ la_ v (hh_ v + i) (tt_ v) = nI c) (h2 : ¬ la_ v (hh_ v) (tt_ v + i) = nI c) : tl_ v c = sr_ (tp_ v c) (13 - vs_t v - (i + 1)) (i + 1) := by
  rw [hj, sr_miss (by omega)]
  · rw [show 13 - vs_t v - i - 1 = 13 - vs_t v - (i + 1) by omega]
  · unfold tp_
    rw [la_eq v hv hc] at h1 h2
    simp [h1, h2]
/-! decisive tosses -/
theorem hd_pos {f : Nat → Bool} : ∀ {n i : Nat}, i < n → f i = true → 0 < hd_ f n
  | n + 1, i, h, e => by
    simp only [hd_]
    rcases Nat.lt_or_ge i n with q | q
    · have := hd_pos q e; omega
    · have e2 : i = n := by omega
      subst e2
      rw [if_pos e]; omega
theorem td_pos {f : Nat → Bool} : ∀ {n i : Nat}, i < n → f i = false → hd_ f n < n
  | n + 1, i, h, e => by
    simp only [hd_]
    have hle := hd_le f n
    rcases Nat.lt_or_ge i n with q | q
    · have := td_pos q e
      split <;> omega
    · have e2 : i = n := by omega
      subst e2
      rw [if_neg (by rw [e]; simp)]; omega
theorem hh_pos {v : VS} {i : Nat} (h : i < vs_t v) (e : vs_th v i = true) : 0 < hh_ v := hd_pos h e
theorem tt_pos {v : VS} {i : Nat} (h : i < vs_t v) (e : vs_th v i = false) : 0 < tt_ v := by
  have := td_pos h e
  unfold tt_ hh_
  omega
theorem lw_la_t {v : VS} {i : Nat} (hw : 0 < wl_ v (hh_ v) (tt_ v)) (e : vs_th v i = true) : la_ v (hh_ v - 1) (tt_ v) = nI (lw_ v i) := by
  rw [la_pos (wl_pos_of_le (Nat.sub_le _ _) (Nat.le_refl _) hw)]
  unfold lw_
  rw [if_pos e]
theorem lw_la_f {v : VS} {i : Nat} (hw : 0 < wl_ v (hh_ v) (tt_ v)) (e : vs_th v i = false) : la_ v (hh_ v) (tt_ v - 1) = nI (lw_ v i) := by
  rw [la_pos (wl_pos_of_le (Nat.le_refl _) (Nat.sub_le _ _) hw)]
  unfold lw_
  rw [if_neg (by rw [e]; simp)]
theorem lw_le (v : VS) (i : Nat) : lw_ v i ≤ vs_c v := by
  unfold lw_
  split <;> exact ld_le _ _ _ _
abbrev dcf_ (v : VS) : Nat → Nat := fun t => if lw_ v t = ld_ v (hh_ v) (tt_ v) (vs_c v) then 0 else 1
theorem dc_e {v : VS} {i : Nat} (hv : ok_v v) (hw : 0 < wl_ v (hh_ v) (tt_ v)) (h : nI (lw_ v i) = la_ v (hh_ v) (tt_ v)) : sm_ (dcf_ v) i = sm_ (dcf_ v) (i + 1) := by
  have h1 := lw_le v i
  have h2 := ld_le v (hh_ v) (tt_ v) (vs_c v)
  have h3 := hv.1
  rw [la_pos hw, nI_eq (by omega) (by omega)] at h
  simp [sm_, dcf_, h]
theorem dc_n {v : VS} {i : Nat} (hv : ok_v v) (hw : 0 < wl_ v (hh_ v) (tt_ v)) (h : ¬ nI (lw_ v i) = la_ v (hh_ v) (tt_ v)) : sm_ (dcf_ v) i + 1 = sm_ (dcf_ v) (i + 1) := by
  have h1 := lw_le v i
  have h2 := ld_le v (hh_ v) (tt_ v) (vs_c v)
  have h3 := hv.1
  rw [la_pos hw, nI_eq (by omega) (by omega)] at h
  simp [sm_, dcf_, h]
theorem sm_le01 {f : Nat → Nat} (h : ∀ i, f i ≤ 1) (n : Nat) : sm_ f n ≤ n := by have := sm_le h n; omega
theorem dc_le (v : VS) : dc_ v ≤ vs_t v := sm_le01 (fun i => by split <;> omega) _
theorem go_le (v : VS) : go_ v ≤ vs_c v := sm_le01 (fun i => by split <;> omega) _
theorem as_le (v : VS) : as_ v ≤ vs_t v * 60 := sm_le (sa_le v) _
/-! the greatest surprise -/
def fS_ (v : VS) (i : Nat) : Int32 := if i = 0 then -1 else nI (gs_ v i)
def gS_ (v : VS) (i : Nat) : Int32 := if i = 0 then -1 else nI (sa_ v (gs_ v i))
theorem m1_lt (n : Nat) (h : n < 2 ^ 31) : ¬ nI n ≤ (-1 : Int32) := by
  intro e
  have h2 := Int32.le_iff_toInt_le.mp e
  rw [nI_toInt h] at h2
  have h3 : (-1 : Int32).toInt = -1 := by decide
  omega
theorem gS_up {v : VS} {i : Nat} (h : ¬ nI (sa_ v i) ≤ gS_ v i) : nI (sa_ v i) = gS_ v (i + 1) ∧ nI i = fS_ v (i + 1) := by
  unfold gS_ fS_
  rw [if_neg (by omega), if_neg (by omega)]
  have e : gs_ v (i + 1) = i := by
    rcases Nat.eq_zero_or_pos i with q | q
    · subst q
      simp [gs_]
    · unfold gS_ at h
      rw [if_neg (by omega)] at h
      have h1 := sa_le v i
      have h2 := sa_le v (gs_ v i)
      rw [nI_leI (by omega) (by omega)] at h
      exact if_pos (by omega)
  rw [e]
  exact ⟨rfl, rfl⟩
theorem gS_eq {v : VS} {i : Nat} (h : nI (sa_ v i) ≤ gS_ v i) : gS_ v i = gS_ v (i + 1) ∧ fS_ v i = fS_ v (i + 1) := by
  have h1 := sa_le v i
  have h2 := sa_le v (gs_ v i)
  have hi : i ≠ 0 := by
    intro q
    subst q
    exact m1_lt _ (by omega) h
  unfold gS_ fS_
  unfold gS_ at h
  rw [if_neg hi] at h ⊢
  rw [if_neg hi, if_neg (by omega), if_neg (by omega)]
  rw [nI_leI (by omega) (by omega)] at h
  have e : gs_ v (i + 1) = gs_ v i := if_neg (by omega)
  rw [e]
  exact ⟨rfl, rfl⟩
/-! the mean -/
def mt_ (v : VS) : UInt64 := FP.ddiv (FP.l2d (lN (ch_ v true (hh_ v) (tt_ v)))) (FP.l2d (lN (wl_ v (hh_ v) (tt_ v))))
theorem l2d_num (q : Int64) : FP.Core.dIsNaN (FP.l2d q) = false := by
  cases h : FP.Core.dIsNaN (FP.l2d q) with
  | false => rfl
  | true =>
    have h1 := (FP.Core.isNaN_bits _).mp h
    have h2 := (FP.Core.fin_bits _).mp (FP.Core.l2d_fin q)
    exact absurd h1 (by show ¬ _ < (FP.Core.l2d q).toNat % 2 ^ 63; omega)
theorem lN_ne0 {r : Nat} (h0 : 0 < r) (hr : r < 2 ^ 63) : lN r ≠ 0 := by
  intro e
  have e2 : lN r = lN 0 := e
  rw [pk_lEQ hr (by omega)] at e2
  omega
theorem dd_nan (q : Int64) {r : Nat} (h0 : 0 < r) (hr : r < 2 ^ 63) : FP.Core.dIsNaN (FP.ddiv (FP.l2d q) (FP.l2d (lN r))) = false := by
  refine FP.Core.ddiv_out (l2d_num q) (FP.Core.l2d_fin _) (fun z => ?_)
  exact FP.Core.l2d_ne_zero (lN_ne0 h0 hr) ((FP.Core.zero_bits2 _).mp z)
theorem num_n64 {x : UInt64} (h : FP.Core.dIsNaN x = false) : vf_n64 x := by
  have h1 : ¬ 9218868437227405312 < x.toNat % 2 ^ 63 := fun z => by rw [(FP.Core.isNaN_bits x).mpr z] at h; cases h
  unfold vf_n64
  rw [UInt64.le_iff_toNat_le, UInt64.toNat_and]
  have h2 : (0x7fffffffffffffff : UInt64).toNat = 2 ^ 63 - 1 := by decide
  have h3 : (0x7ff0000000000000 : UInt64).toNat = 9218868437227405312 := by decide
  rw [h2, h3, Nat.and_two_pow_sub_one_eq_mod]
  omega
theorem dd_ok (q : Int64) {r : Nat} (h0 : 0 < r) (hr : r < 2 ^ 63) : vf_n64 (FP.ddiv (FP.l2d q) (FP.l2d (lN r))) := num_n64 (dd_nan q h0 hr)
abbrev gof_ (v : VS) : Nat → Nat := fun c => if wt_ v c (hh_ v) (tt_ v) = 0 then 1 else 0
