/-! ===== the ladder as numbers: (coins, schools, tosses), tenths, odds, shares (school, coin), tosses (heads?) ===== -/
abbrev VS : Type := (Nat × Nat × Nat) × (Nat → Nat) × (Nat → Nat) × (Nat → Nat → Nat) × (Nat → Bool)
def vs_c (v : VS) : Nat := v.1.1
def vs_n (v : VS) : Nat := v.1.2.1
def vs_t (v : VS) : Nat := v.1.2.2
def vs_ct (v : VS) : Nat → Nat := v.2.1
def vs_so (v : VS) : Nat → Nat := v.2.2.1
def vs_sh (v : VS) : Nat → Nat → Nat := v.2.2.2.1
def vs_th (v : VS) : Nat → Bool := v.2.2.2.2
def ok_v (v : VS) : Prop := vs_c v ≤ 8 ∧ vs_n v ≤ 4 ∧ vs_t v ≤ 12 ∧ (∀ c, vs_ct v c ≤ 10) ∧ (∀ s, vs_so v s ≤ 9) ∧ (∀ s c, vs_sh v s c ≤ 9)
/-- a sum -/
def sm_ (f : Nat → Nat) : Nat → Nat
  | 0 => 0
  | n + 1 => sm_ f n + f n
/-- how many of the first are heads -/
def hd_ (f : Nat → Bool) : Nat → Nat
  | 0 => 0
  | n + 1 => hd_ f n + (if f n then 1 else 0)
def lk_ (v : VS) (c a b : Nat) : Nat := vs_ct v c ^ a * (10 - vs_ct v c) ^ b
def sw_ (v : VS) (s c : Nat) : Nat := vs_so v s * vs_sh v s c
def gv_ (v : VS) (c : Nat) : Nat := sm_ (fun s => sw_ v s c) (vs_n v)
/-- the weight of a coin behind a heads and b tails -/
def wt_ (v : VS) (c a b : Nat) : Nat := gv_ v c * lk_ v c a b
/-- the whole weight -/
def wl_ (v : VS) (a b : Nat) : Nat := sm_ (fun c => wt_ v c a b) (vs_c v)
def pr_ (v : VS) (s c a b : Nat) : Nat := sw_ v s c * lk_ v c a b
def sc_ (v : VS) (s a b : Nat) : Nat := sm_ (fun c => pr_ v s c a b) (vs_c v)
def ch_ (v : VS) (h : Bool) (a b : Nat) : Nat := if h then wl_ v (a + 1) b else wl_ v a (b + 1)
/-- the leading coin among the first -/
def ld_ (v : VS) (a b : Nat) : Nat → Nat
  | 0 => 0
  | n + 1 => if wt_ v (ld_ v a b n) a b < wt_ v n a b then n else ld_ v a b n
/-- doublings -/
def sd_ (d L : Nat) : Nat → Nat
  | 0 => 0
  | f + 1 => if d ≤ L then sd_ (2 * d) L f + 1 else 0
def su_ (v : VS) (h : Bool) (a b : Nat) : Nat := sd_ (2 * ch_ v h a b) (10 * wl_ v a b) 60
def hh_ (v : VS) : Nat := hd_ (vs_th v) (vs_t v)
def tt_ (v : VS) : Nat := vs_t v - hh_ v
/-- the surprise of a noted toss -/
def sa_ (v : VS) (t : Nat) : Nat := su_ v (vs_th v t) (hd_ (vs_th v) t) (t - hd_ (vs_th v) t)
def as_ (v : VS) : Nat := sm_ (sa_ v) (vs_t v)
def gs_ (v : VS) : Nat → Nat
  | 0 => 0
  | n + 1 => if sa_ v (gs_ v n) < sa_ v n then n else gs_ v n
def la_ (v : VS) (a b : Nat) : Int32 := if wl_ v a b = 0 then -1 else nI (ld_ v a b (vs_c v))
def fi_ (v : VS) (c a b : Nat) : Bool := decide (0 < wt_ v c a b) && decide (ld_ v a b (vs_c v) = c)
def tp_ (v : VS) (c k : Nat) : Bool := fi_ v c (hh_ v + k) (tt_ v) || fi_ v c (hh_ v) (tt_ v + k)
def sr_ (P : Nat → Bool) : Nat → Nat → Int32
  | 0, _ => -1
  | n + 1, i => if P i then nI i else sr_ P n (i + 1)
def tl_ (v : VS) (c : Nat) : Int32 := sr_ (tp_ v c) (13 - vs_t v) 0
/-- the leader without the toss t -/
def lw_ (v : VS) (t : Nat) : Nat := if vs_th v t then ld_ v (hh_ v - 1) (tt_ v) (vs_c v) else ld_ v (hh_ v) (tt_ v - 1) (vs_c v)
def dc_ (v : VS) : Nat := sm_ (fun t => if lw_ v t = ld_ v (hh_ v) (tt_ v) (vs_c v) then 0 else 1) (vs_t v)
def go_ (v : VS) : Nat := sm_ (fun c => if wt_ v c (hh_ v) (tt_ v) = 0 then 1 else 0) (vs_c v)
/-- the leading school among the first -/
def lsc_ (v : VS) (a b : Nat) : Nat → Nat
  | 0 => 0
  | n + 1 => if sc_ v (lsc_ v a b n) a b < sc_ v n a b then n else lsc_ v a b n
/-! the digest -/
def dg_ (d x : Int64) : Int64 := d * 31 + x
def dC_ (v : VS) (d : Int64) : Nat → Int64
  | 0 => d
  | n + 1 => dg_ (dg_ (dg_ (dC_ v d n) (lN (vs_ct v n))) (lN (wt_ v n (hh_ v) (tt_ v)))) (tl_ v n).toInt64
def dI_ (v : VS) (s : Nat) (d : Int64) : Nat → Int64
  | 0 => d
  | n + 1 => dg_ (dI_ v s d n) (lN (vs_sh v s n))
def dS_ (v : VS) (d : Int64) : Nat → Int64
  | 0 => d
  | n + 1 => dI_ v n (dg_ (dg_ (dS_ v d n) (lN (vs_so v n))) (lN (sc_ v n (hh_ v) (tt_ v)))) (vs_c v)
def dT_ (v : VS) (d : Int64) : Nat → Int64
  | 0 => d
  | n + 1 => dg_ (dg_ (dT_ v d n) (lN (if vs_th v n then 1 else 0))) (lN (sa_ v n))
def dH_ (v : VS) : Int64 := dg_ (dg_ (dg_ (dg_ (dg_ (dg_ (dg_ (dg_ 1913 (lN (vs_c v))) (lN (vs_n v))) (lN (vs_t v))) (lN (hh_ v))) (lN (wl_ v (hh_ v) (tt_ v)))) (lN (go_ v))) (lN (as_ v))) (lN (dc_ v))
def di_ (v : VS) : Int64 := dT_ v (dS_ v (dC_ v (dH_ v) (vs_c v)) (vs_n v)) (vs_t v)
/-! ===== facts ===== -/
theorem hd_le (f : Nat → Bool) : ∀ n, hd_ f n ≤ n
  | 0 => Nat.le_refl 0
  | n + 1 => by
    have := hd_le f n
    simp only [hd_]
    split <;> omega
theorem hd_mono (f : Nat → Bool) : ∀ n k, hd_ f n ≤ hd_ f (n + k)
  | _, 0 => Nat.le_refl _
  | n, k + 1 => by
    have := hd_mono f n k
    show hd_ f n ≤ hd_ f (n + k) + _
    omega
theorem hd_tmono (f : Nat → Bool) : ∀ n k, n - hd_ f n ≤ (n + k) - hd_ f (n + k)
  | n, 0 => Nat.le_refl _
  | n, k + 1 => by
    have h := hd_tmono f n k
    have h2 := hd_le f (n + k)
    show n - hd_ f n ≤ (n + k + 1) - (hd_ f (n + k) + _)
    split <;> omega
theorem hh_le (v : VS) : hh_ v ≤ vs_t v := hd_le _ _
theorem hh_tt (v : VS) : hh_ v + tt_ v = vs_t v := by have := hh_le v; unfold tt_; omega
theorem sm_le {f : Nat → Nat} {B : Nat} (h : ∀ i, f i ≤ B) : ∀ n, sm_ f n ≤ n * B
  | 0 => by simp [sm_]
  | n + 1 => by
    have h1 := sm_le h n
    have h2 := h n
    simp only [sm_, Nat.succ_mul]
    omega
theorem sm_congr {f g : Nat → Nat} : ∀ n, (∀ i, i < n → f i = g i) → sm_ f n = sm_ g n
  | 0, _ => rfl
  | n + 1, h => by simp only [sm_]; rw [sm_congr n (fun i hi => h i (by omega)), h n (by omega)]
theorem sm_le1 {f : Nat → Nat} : ∀ n i, i < n → f i ≤ sm_ f n
  | n + 1, i, h => by
    simp only [sm_]
    rcases Nat.lt_or_ge i n with q | q
    · have := sm_le1 (f := f) n i q; omega
    · have : i = n := by omega
      subst this; omega
theorem sm_pos {f : Nat → Nat} : ∀ n, 0 < sm_ f n → ∃ i, i < n ∧ 0 < f i
  | 0, h => absurd h (by simp [sm_])
  | n + 1, h => by
    rcases Nat.eq_zero_or_pos (f n) with q | q
    · simp only [sm_, q] at h
      obtain ⟨i, h1, h2⟩ := sm_pos n h
      exact ⟨i, by omega, h2⟩
    · exact ⟨n, by omega, q⟩
theorem sm_zero {f : Nat → Nat} {n : Nat} (h : sm_ f n = 0) {i : Nat} (hi : i < n) : f i = 0 := by
  have := sm_le1 (f := f) n i hi
  omega
theorem sm_add (f g : Nat → Nat) : ∀ n, sm_ f n + sm_ g n = sm_ (fun i => f i + g i) n
  | 0 => rfl
  | n + 1 => by simp only [sm_]; rw [← sm_add f g n]; omega
theorem sm_mul (f : Nat → Nat) (k : Nat) : ∀ n, k * sm_ f n = sm_ (fun i => k * f i) n
  | 0 => rfl
  | n + 1 => by simp only [sm_]; rw [← sm_mul f k n, Nat.mul_add]
theorem pow_le10 {x : Nat} (h : x ≤ 10) (n : Nat) : x ^ n ≤ 10 ^ n := Nat.pow_le_pow_left h n
theorem lk_le {v : VS} (hv : ok_v v) (c a b : Nat) : lk_ v c a b ≤ 10 ^ (a + b) := by
  rw [Nat.pow_add]
  exact Nat.mul_le_mul (pow_le10 (hv.2.2.2.1 c) a) (pow_le10 (by omega) b)
theorem sw_le {v : VS} (hv : ok_v v) (s c : Nat) : sw_ v s c ≤ 81 := by
  have h1 := hv.2.2.2.2.1 s
  have h2 := hv.2.2.2.2.2 s c
  exact Nat.le_trans (Nat.mul_le_mul h1 h2) (by decide)
theorem gv_le {v : VS} (hv : ok_v v) (c : Nat) : gv_ v c ≤ 324 := by
  have h1 := sm_le (f := fun s => sw_ v s c) (B := 81) (fun s => sw_le hv s c) (vs_n v)
  have h2 := hv.2.1
  unfold gv_
  omega
theorem wt_le {v : VS} (hv : ok_v v) (c a b : Nat) : wt_ v c a b ≤ 324 * 10 ^ (a + b) := Nat.mul_le_mul (gv_le hv c) (lk_le hv c a b)
theorem wl_le {v : VS} (hv : ok_v v) (a b : Nat) : wl_ v a b ≤ 2592 * 10 ^ (a + b) := by
  have h1 := sm_le (f := fun c => wt_ v c a b) (B := 324 * 10 ^ (a + b)) (fun c => wt_le hv c a b) (vs_c v)
  have h2 : vs_c v * (324 * 10 ^ (a + b)) ≤ 8 * (324 * 10 ^ (a + b)) := Nat.mul_le_mul_right _ hv.1
  unfold wl_
  omega
theorem pr_le {v : VS} (hv : ok_v v) (s c a b : Nat) : pr_ v s c a b ≤ 81 * 10 ^ (a + b) := Nat.mul_le_mul (sw_le hv s c) (lk_le hv c a b)
theorem sc_le {v : VS} (hv : ok_v v) (s a b : Nat) : sc_ v s a b ≤ 648 * 10 ^ (a + b) := by
  have h1 := sm_le (f := fun c => pr_ v s c a b) (B := 81 * 10 ^ (a + b)) (fun c => pr_le hv s c a b) (vs_c v)
  have h2 : vs_c v * (81 * 10 ^ (a + b)) ≤ 8 * (81 * 10 ^ (a + b)) := Nat.mul_le_mul_right _ hv.1
  unfold sc_
  omega
theorem p10_le {n : Nat} (h : n ≤ 13) : 10 ^ n ≤ 10000000000000 := Nat.le_trans (Nat.pow_le_pow_right (by decide) h) (by decide)
theorem p10_le12 {n : Nat} (h : n ≤ 12) : 10 ^ n ≤ 1000000000000 := Nat.le_trans (Nat.pow_le_pow_right (by decide) h) (by decide)
theorem wt_b {v : VS} (hv : ok_v v) (c : Nat) {a b : Nat} (h : a + b ≤ 13) : wt_ v c a b ≤ 3240000000000000 := by have h1 := wt_le hv c a b; have h2 := p10_le h; omega
theorem wl_b {v : VS} (hv : ok_v v) {a b : Nat} (h : a + b ≤ 13) : wl_ v a b ≤ 25920000000000000 := by have h1 := wl_le hv a b; have h2 := p10_le h; omega
theorem wl_b12 {v : VS} (hv : ok_v v) {a b : Nat} (h : a + b ≤ 12) : wl_ v a b ≤ 2592000000000000 := by have h1 := wl_le hv a b; have h2 := p10_le12 h; omega
theorem sc_b {v : VS} (hv : ok_v v) (s : Nat) {a b : Nat} (h : a + b ≤ 13) : sc_ v s a b ≤ 6480000000000000 := by have h1 := sc_le hv s a b; have h2 := p10_le h; omega
theorem ch_b {v : VS} (hv : ok_v v) (h : Bool) {a b : Nat} (hab : a + b ≤ 12) : ch_ v h a b ≤ 25920000000000000 := by
  unfold ch_
  split
  · exact wl_b hv (by omega)
  · exact wl_b hv (by omega)
theorem wt_up (v : VS) (c a b : Nat) : wt_ v c (a + 1) b = wt_ v c a b * vs_ct v c := by
  unfold wt_ lk_
  rw [Nat.pow_succ]
  simp only [Nat.mul_assoc, Nat.mul_comm, Nat.mul_left_comm]
theorem wt_dn (v : VS) (c a b : Nat) : wt_ v c a (b + 1) = wt_ v c a b * (10 - vs_ct v c) := by
  unfold wt_ lk_
  rw [Nat.pow_succ]
  simp only [Nat.mul_assoc]
/-- the chance, coin by coin -/
theorem ch_sum (v : VS) (h : Bool) (a b : Nat) : sm_ (fun c => wt_ v c a b * (if h then vs_ct v c else 10 - vs_ct v c)) (vs_c v) = ch_ v h a b := by
  unfold ch_
  cases h
  · exact sm_congr _ (fun c _ => (wt_dn v c a b).symm)
  · exact sm_congr _ (fun c _ => (wt_up v c a b).symm)
theorem ch_both {v : VS} (hv : ok_v v) (a b : Nat) : ch_ v true a b + ch_ v false a b = 10 * wl_ v a b := by
  rw [← ch_sum, ← ch_sum, sm_add]
  unfold wl_
  rw [sm_mul]
  refine sm_congr _ (fun c _ => ?_)
  have h := hv.2.2.2.1 c
  show wt_ v c a b * vs_ct v c + wt_ v c a b * (10 - vs_ct v c) = 10 * wt_ v c a b
  rw [← Nat.mul_add, show vs_ct v c + (10 - vs_ct v c) = 10 by omega, Nat.mul_comm]
/-! fewer tosses, no smaller support -/
theorem wt_pos_up {v : VS} {c a b : Nat} (h : 0 < wt_ v c (a + 1) b) : 0 < wt_ v c a b := by
  rw [wt_up] at h
  exact Nat.pos_of_mul_pos_right h
theorem wt_pos_dn {v : VS} {c a b : Nat} (h : 0 < wt_ v c a (b + 1)) : 0 < wt_ v c a b := by
  rw [wt_dn] at h
  exact Nat.pos_of_mul_pos_right h
theorem wl_pos {v : VS} {a b : Nat} : 0 < wl_ v a b ↔ ∃ c, c < vs_c v ∧ 0 < wt_ v c a b := by
  constructor
  · exact fun h => sm_pos _ h
  · rintro ⟨c, h1, h2⟩
    exact Nat.lt_of_lt_of_le h2 (sm_le1 (f := fun c => wt_ v c a b) _ c h1)
theorem wl_pos_up {v : VS} {a b : Nat} (h : 0 < wl_ v (a + 1) b) : 0 < wl_ v a b := by
  obtain ⟨c, h1, h2⟩ := wl_pos.mp h
  exact wl_pos.mpr ⟨c, h1, wt_pos_up h2⟩
theorem wl_pos_dn {v : VS} {a b : Nat} (h : 0 < wl_ v a (b + 1)) : 0 < wl_ v a b := by
  obtain ⟨c, h1, h2⟩ := wl_pos.mp h
  exact wl_pos.mpr ⟨c, h1, wt_pos_dn h2⟩
theorem wl_pos_le {v : VS} {a b : Nat} : ∀ i j, 0 < wl_ v (a + i) (b + j) → 0 < wl_ v a b
  | 0, 0, h => h
  | i + 1, j, h => wl_pos_le i j (wl_pos_up (a := a + i) h)
  | 0, j + 1, h => wl_pos_le 0 j (wl_pos_dn (b := b + j) h)
theorem wl_pos_of_le {v : VS} {a b a' b' : Nat} (ha : a ≤ a') (hb : b ≤ b') (h : 0 < wl_ v a' b') : 0 < wl_ v a b :=
  wl_pos_le (a' - a) (b' - b) (by rw [show a + (a' - a) = a' by omega, show b + (b' - b) = b' by omega]; exact h)
/-! the leader -/
theorem ld_lt (v : VS) (a b : Nat) : ∀ n, 0 < n → ld_ v a b n < n
  | n + 1, _ => by
    simp only [ld_]
    split
    · omega
    · rcases Nat.eq_zero_or_pos n with q | q
      · subst q; simp [ld_]
      · have := ld_lt v a b n q; omega
theorem ld_max (v : VS) (a b : Nat) : ∀ n i, i < n → wt_ v i a b ≤ wt_ v (ld_ v a b n) a b
  | n + 1, i, h => by
    simp only [ld_]
    rcases Nat.lt_or_ge i n with q | q
    · have h1 := ld_max v a b n i q
      split
      · omega
      · exact h1
    · have e : i = n := by omega
      subst e
      split
      · exact Nat.le_refl _
      · omega
theorem ld_pos {v : VS} {a b : Nat} (h : 0 < wl_ v a b) : 0 < wt_ v (ld_ v a b (vs_c v)) a b := by
  obtain ⟨c, h1, h2⟩ := wl_pos.mp h
  have := ld_max v a b _ c h1
  omega
theorem ld_posc {v : VS} {a b : Nat} (h : 0 < wl_ v a b) : ld_ v a b (vs_c v) < vs_c v := by
  obtain ⟨c, h1, h2⟩ := wl_pos.mp h
  exact ld_lt v a b _ (by omega)
theorem la_eq (v : VS) {a b c : Nat} (hv : ok_v v) (hc : c < vs_c v) : (la_ v a b = nI c) ↔ fi_ v c a b = true := by
  have hc8 := hv.1
  unfold la_ fi_
  simp only [Bool.and_eq_true, decide_eq_true_eq]
  split
  · rename_i h0
    constructor
    · intro h
      exact absurd h (by
        have : nI c ≠ -1 := by
          intro h
          have h2 := congrArg Int32.toInt h
          rw [nI_toInt (by omega)] at h2
          have h3 : (-1 : Int32).toInt = -1 := by decide
          omega
        exact fun z => this z.symm)
    · rintro ⟨h1, -⟩
      exact absurd (sm_zero h0 hc) (by omega)
  · rename_i h0
    have hp : 0 < wl_ v a b := by omega
    have hl := ld_posc hp
    rw [nI_eq (by omega) (by omega)]
    constructor
    · intro h
      exact ⟨by rw [← h]; exact ld_pos hp, h⟩
    · exact fun h => h.2
/-! doublings -/
theorem sd_le (d L : Nat) : ∀ f, sd_ d L f ≤ f
  | 0 => Nat.le_refl 0
  | f + 1 => by
    simp only [sd_]
    split
    · have := sd_le (2 * d) L f; omega
    · omega
theorem sd_stop {d L : Nat} (h : L < d) (f : Nat) : sd_ d L f = 0 := by
  cases f with
  | zero => rfl
  | succ f => simp only [sd_]; rw [if_neg (by omega)]
/-- more fuel says the same, where the number grows beyond the limit -/
theorem sd_fuel : ∀ (f g d L : Nat), L < 2 ^ f * d → sd_ d L (f + g) = sd_ d L f
  | 0, g, d, L, h => by
    rw [Nat.zero_add, sd_stop (by simpa using h)]
    rfl
  | f + 1, g, d, L, h => by
    rw [show f + 1 + g = (f + g) + 1 by omega]
    simp only [sd_]
    split
    · rw [sd_fuel f g (2 * d) L (by rw [Nat.pow_succ] at h; rw [show 2 ^ f * (2 * d) = 2 ^ f * 2 * d by rw [Nat.mul_assoc]]; exact h)]
    · rfl
theorem sa_le (v : VS) (t : Nat) : sa_ v t ≤ 60 := sd_le _ _ _
theorem su_le (v : VS) (h : Bool) (a b : Nat) : su_ v h a b ≤ 60 := sd_le _ _ _
theorem gs_lt (v : VS) : ∀ n, 0 < n → gs_ v n < n
  | n + 1, _ => by
    simp only [gs_]
    split
    · omega
    · rcases Nat.eq_zero_or_pos n with q | q
      · subst q; simp [gs_]
      · have := gs_lt v n q; omega
theorem lsc_lt (v : VS) (a b : Nat) : ∀ n, 0 < n → lsc_ v a b n < n
  | n + 1, _ => by
    simp only [lsc_]
    split
    · omega
    · rcases Nat.eq_zero_or_pos n with q | q
      · subst q; simp [lsc_]
      · have := lsc_lt v a b n q; omega
