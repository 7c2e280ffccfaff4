/-! ===== facts for the loops ===== -/
/-- the greatest weight among the first coins, as the class' loop holds it -/
def gq_ (v : VS) (a b : Nat) : Nat → Nat
  | 0 => 0
  | n + 1 => wt_ v (ld_ v a b (n + 1)) a b
def lq_ (v : VS) (a b n : Nat) : Int32 := if gq_ v a b n = 0 then -1 else nI (ld_ v a b n)
theorem gq_succ (v : VS) (a b n : Nat) : gq_ v a b (n + 1) = if gq_ v a b n < wt_ v n a b then wt_ v n a b else gq_ v a b n := by
  cases n with
  | zero =>
    have e1 : ld_ v a b 1 = 0 := by simp [ld_]
    have e2 : gq_ v a b 0 = 0 := rfl
    rw [show gq_ v a b 1 = wt_ v (ld_ v a b 1) a b from rfl, e1, e2]
    split <;> omega
  | succ n =>
    show wt_ v (ld_ v a b (n + 1 + 1)) a b = _
    rw [show ld_ v a b (n + 1 + 1) = if wt_ v (ld_ v a b (n + 1)) a b < wt_ v (n + 1) a b then n + 1 else ld_ v a b (n + 1) from rfl]
    show _ = if wt_ v (ld_ v a b (n + 1)) a b < _ then _ else wt_ v (ld_ v a b (n + 1)) a b
    split <;> rfl
theorem ld_succ (v : VS) (a b n : Nat) (h : gq_ v a b n < wt_ v n a b) : ld_ v a b (n + 1) = n := by
  cases n with
  | zero => simp [ld_]
  | succ n => exact if_pos h
theorem ld_succ' (v : VS) (a b n : Nat) (h : ¬ gq_ v a b n < wt_ v n a b) (h0 : 0 < gq_ v a b n) : ld_ v a b (n + 1) = ld_ v a b n := by
  cases n with
  | zero => simp [gq_] at h0
  | succ n => exact if_neg h
theorem lq_up {v : VS} {a b n : Nat} (h : gq_ v a b n < wt_ v n a b) : nI n = lq_ v a b (n + 1) := by
  unfold lq_
  rw [gq_succ, if_pos h, if_neg (by omega), ld_succ v a b n h]
theorem lq_eq {v : VS} {a b n : Nat} (h : wt_ v n a b ≤ gq_ v a b n) : lq_ v a b n = lq_ v a b (n + 1) := by
  have h' : ¬ gq_ v a b n < wt_ v n a b := by omega
  unfold lq_
  rw [gq_succ, if_neg h']
  split
  · rfl
  · rw [ld_succ' v a b n h' (by omega)]
theorem gq_up {v : VS} {a b n : Nat} (h : gq_ v a b n < wt_ v n a b) : wt_ v n a b = gq_ v a b (n + 1) := by rw [gq_succ, if_pos h]
theorem gq_eq {v : VS} {a b n : Nat} (h : wt_ v n a b ≤ gq_ v a b n) : gq_ v a b n = gq_ v a b (n + 1) := by rw [gq_succ, if_neg (by omega)]
theorem gq_b {v : VS} (hv : ok_v v) (n : Nat) {a b : Nat} (h : a + b ≤ 13) : gq_ v a b n ≤ 3240000000000000 := by
  cases n with
  | zero => exact Nat.zero_le _
  | succ n => exact wt_b hv _ h
theorem gq_max (v : VS) (a b : Nat) : ∀ n i, i < n → wt_ v i a b ≤ gq_ v a b n
  | n + 1, i, h => ld_max v a b (n + 1) i h
theorem lq_la (v : VS) (a b : Nat) : lq_ v a b (vs_c v) = la_ v a b := by
  unfold lq_ la_
  have h : gq_ v a b (vs_c v) = 0 ↔ wl_ v a b = 0 := by
    constructor
    · intro h
      rcases Nat.eq_zero_or_pos (wl_ v a b) with q | q
      · exact q
      · obtain ⟨c, h1, h2⟩ := wl_pos.mp q
        have := gq_max v a b _ c h1
        omega
    · intro h
      rcases Nat.eq_zero_or_pos (vs_c v) with q | q
      · rw [q]; rfl
      · obtain ⟨k, hk⟩ : ∃ k, vs_c v = k + 1 := ⟨vs_c v - 1, by omega⟩
        have h3 := ld_lt v a b _ q
        have h4 : wt_ v (ld_ v a b (vs_c v)) a b = 0 := sm_zero (f := fun c => wt_ v c a b) h h3
        rw [hk] at h4 ⊢
        exact h4
  by_cases q : wl_ v a b = 0
  · rw [if_pos q, if_pos (h.mpr q)]
  · rw [if_neg q, if_neg (fun z => q (h.mp z))]
/-! the same for the leading school -/
def gs2_ (v : VS) (a b : Nat) : Nat → Nat
  | 0 => 0
  | n + 1 => sc_ v (lsc_ v a b (n + 1)) a b
def ls2_ (v : VS) (a b n : Nat) : Int32 := if gs2_ v a b n = 0 then -1 else nI (lsc_ v a b n)
theorem gs2_succ (v : VS) (a b n : Nat) : gs2_ v a b (n + 1) = if gs2_ v a b n < sc_ v n a b then sc_ v n a b else gs2_ v a b n := by
  cases n with
  | zero =>
    have e1 : lsc_ v a b 1 = 0 := by simp [lsc_]
    have e2 : gs2_ v a b 0 = 0 := rfl
    rw [show gs2_ v a b 1 = sc_ v (lsc_ v a b 1) a b from rfl, e1, e2]
    split <;> omega
  | succ n =>
    show sc_ v (lsc_ v a b (n + 1 + 1)) a b = _
    rw [show lsc_ v a b (n + 1 + 1) = if sc_ v (lsc_ v a b (n + 1)) a b < sc_ v (n + 1) a b then n + 1 else lsc_ v a b (n + 1) from rfl]
    show _ = if sc_ v (lsc_ v a b (n + 1)) a b < _ then _ else sc_ v (lsc_ v a b (n + 1)) a b
    split <;> rfl
theorem lsc_succ (v : VS) (a b n : Nat) (h : gs2_ v a b n < sc_ v n a b) : lsc_ v a b (n + 1) = n := by
  cases n with
  | zero => simp [lsc_]
  | succ n => exact if_pos h
theorem lsc_succ' (v : VS) (a b n : Nat) (h : ¬ gs2_ v a b n < sc_ v n a b) (h0 : 0 < gs2_ v a b n) : lsc_ v a b (n + 1) = lsc_ v a b n := by
  cases n with
  | zero => simp [gs2_] at h0
  | succ n => exact if_neg h
theorem ls2_up {v : VS} {a b n : Nat} (h : gs2_ v a b n < sc_ v n a b) : nI n = ls2_ v a b (n + 1) := by
  unfold ls2_
  rw [gs2_succ, if_pos h, if_neg (by omega), lsc_succ v a b n h]
theorem ls2_eq {v : VS} {a b n : Nat} (h : sc_ v n a b ≤ gs2_ v a b n) : ls2_ v a b n = ls2_ v a b (n + 1) := by
  have h' : ¬ gs2_ v a b n < sc_ v n a b := by omega
  unfold ls2_
  rw [gs2_succ, if_neg h']
  split
  · rfl
  · rw [lsc_succ' v a b n h' (by omega)]
theorem gs2_up {v : VS} {a b n : Nat} (h : gs2_ v a b n < sc_ v n a b) : sc_ v n a b = gs2_ v a b (n + 1) := by rw [gs2_succ, if_pos h]
theorem gs2_eq {v : VS} {a b n : Nat} (h : sc_ v n a b ≤ gs2_ v a b n) : gs2_ v a b n = gs2_ v a b (n + 1) := by rw [gs2_succ, if_neg (by omega)]
theorem gs2_b {v : VS} (hv : ok_v v) (n : Nat) {a b : Nat} (h : a + b ≤ 13) : gs2_ v a b n ≤ 6480000000000000 := by
  cases n with
  | zero => exact Nat.zero_le _
  | succ n => exact sc_b hv _ h
/-! doublings, as the class' loop counts them -/
theorem su_step {S d L i : Nat} (h : S = sd_ (2 ^ i * d) L (60 - i) + i) (hi : i < 60) (hle : 2 ^ i * d ≤ L) : S = sd_ (2 ^ (i + 1) * d) L (60 - (i + 1)) + (i + 1) := by
  rw [show 60 - i = (60 - (i + 1)) + 1 by omega] at h
  simp only [sd_] at h
  rw [if_pos hle] at h
  rw [h, Nat.pow_succ, show 2 * (2 ^ i * d) = 2 ^ i * 2 * d by rw [← Nat.mul_assoc, Nat.mul_comm 2 (2 ^ i)]]
  omega
theorem su_stop {S d L i : Nat} (h : S = sd_ (2 ^ i * d) L (60 - i) + i) (hlt : L < 2 ^ i * d) : i = S := by
  rw [h, sd_stop hlt]
  omega
theorem su_zero {S d L i : Nat} (h : S = sd_ (2 ^ i * d) L (60 - i) + i) (hi : i = 60) : i = S := by
  subst hi
  rw [h]
  show 60 = sd_ _ _ 0 + 60
  simp [sd_]
theorem nI_dec {n : Nat} (h : 0 < n) : nI n + Int32.ofInt (-1) = nI (n - 1) := by
  obtain ⟨k, rfl⟩ : ∃ k, n = k + 1 := ⟨n - 1, by omega⟩
  exact pk_m1 k
theorem lc_cons {x x' : Nat × Value} {r r' : List (Nat × Value)} (h : x = x') (h2 : r = r') : x :: r = x' :: r' := by rw [h, h2]
