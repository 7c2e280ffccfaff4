/-! ===== facts for the reference's writing calls ===== -/
theorem ir_nI {j a b : Nat} (h1 : a ≤ j) (h2 : j ≤ b) (hb : b < 2 ^ 31) : ir_ (nI j) a b = true := by
  unfold ir_
  rw [nI_toInt (by omega)]
  exact decide_eq_true (by omega)
/-- shares outside what is given are 1 -/
def un_ (v : VS) : Prop := ∀ s c, (vs_n v ≤ s ∨ vs_c v ≤ c) → vs_sh v s c = 1
def ac_ (f : Nat → Nat) (c i : Nat) : Nat → Nat := fun j => if 4 * c ≤ j ∧ j < 4 * c + i then 1 else f j
theorem ac_0 (f : Nat → Nat) (c : Nat) : ac_ f c 0 = f := by
  funext j
  unfold ac_
  rw [if_neg (by omega)]
theorem ac_s (f : Nat → Nat) (c i : Nat) : upN (ac_ f c i) (4 * c + i) 1 = ac_ f c (i + 1) := by
  funext j
  unfold upN ac_
  by_cases e : j = 4 * c + i
  · rw [if_pos e, if_pos (by omega)]
  · rw [if_neg e]
    by_cases q : 4 * c ≤ j ∧ j < 4 * c + i
    · rw [if_pos q, if_pos (by omega)]
    · rw [if_neg q, if_neg (by omega)]
theorem ms_addCoin {v : VS} (hv : ok_v v) (hu : un_ v) (x : Nat) : ac_ (ms_ v) (vs_c v) (vs_n v) = ms_ (nx_addCoin v x) := by
  have h4 := hv.2.1
  funext j
  show (if 4 * vs_c v ≤ j ∧ j < 4 * vs_c v + vs_n v then 1 else if j % 4 < vs_n v ∧ j / 4 < vs_c v then vs_sh v (j % 4) (j / 4) else 0) = if j % 4 < vs_n v ∧ j / 4 < vs_c v + 1 then vs_sh v (j % 4) (j / 4) else 0
  by_cases q : 4 * vs_c v ≤ j ∧ j < 4 * vs_c v + vs_n v
  · rw [if_pos q, if_pos (by omega), hu _ _ (Or.inr (by omega))]
  · rw [if_neg q]
    by_cases q2 : j % 4 < vs_n v ∧ j / 4 < vs_c v
    · rw [if_pos q2, if_pos (by omega)]
    · rw [if_neg q2, if_neg (by omega)]
def bs_ (f : Nat → Nat) (n i : Nat) : Nat → Nat := fun j => if j % 4 = n ∧ j / 4 < i then 1 else f j
theorem bs_0 (f : Nat → Nat) (n : Nat) : bs_ f n 0 = f := by
  funext j
  unfold bs_
  rw [if_neg (by omega)]
theorem bs_s (f : Nat → Nat) {n : Nat} (hn : n < 4) (i : Nat) : upN (bs_ f n i) (4 * i + n) 1 = bs_ f n (i + 1) := by
  funext j
  unfold upN bs_
  by_cases e : j = 4 * i + n
  · rw [if_pos e, if_pos (by omega)]
  · rw [if_neg e]
    by_cases q : j % 4 = n ∧ j / 4 < i
    · rw [if_pos q, if_pos (by omega)]
    · rw [if_neg q, if_neg (by omega)]
theorem ms_addSchool {v : VS} (hu : un_ v) (x : Nat) : bs_ (ms_ v) (vs_n v) (vs_c v) = ms_ (nx_addSchool v x) := by
  funext j
  show (if j % 4 = vs_n v ∧ j / 4 < vs_c v then 1 else if j % 4 < vs_n v ∧ j / 4 < vs_c v then vs_sh v (j % 4) (j / 4) else 0) = if j % 4 < vs_n v + 1 ∧ j / 4 < vs_c v then vs_sh v (j % 4) (j / 4) else 0
  by_cases q : j % 4 = vs_n v ∧ j / 4 < vs_c v
  · rw [if_pos q, if_pos (by omega), hu _ _ (Or.inl (by omega))]
  · rw [if_neg q]
    by_cases q2 : j % 4 < vs_n v ∧ j / 4 < vs_c v
    · rw [if_pos q2, if_pos (by omega)]
    · rw [if_neg q2, if_neg (by omega)]
theorem ms_setShare {v : VS} {s c : Nat} (h1 : s < vs_n v) (h2 : c < vs_c v) (h4 : s < 4) (x : Nat) : upN (ms_ v) (4 * c + s) x = ms_ (nx_setShare v s c x) := by
  funext j
  show (if j = 4 * c + s then x else if j % 4 < vs_n v ∧ j / 4 < vs_c v then vs_sh v (j % 4) (j / 4) else 0) = if j % 4 < vs_n v ∧ j / 4 < vs_c v then (if j % 4 = s ∧ j / 4 = c then x else vs_sh v (j % 4) (j / 4)) else 0
  by_cases e : j = 4 * c + s
  · rw [if_pos e, if_pos (by omega), if_pos (by omega)]
  · rw [if_neg e]
    by_cases q2 : j % 4 < vs_n v ∧ j / 4 < vs_c v
    · rw [if_pos q2, if_pos q2, if_neg (by omega)]
    · rw [if_neg q2, if_neg q2]
theorem upB_row (f : Nat → Bool) (t : Nat) (h : Bool) : rn_ (upB f t h) (t + 1) = rn_ f t + (if h then 2 ^ t else 0) := by
  show rn_ (upB f t h) t + (if upB f t h t then 2 ^ t else 0) = _
  rw [rn_congr (f := upB f t h) (g := f) t (fun j hj => by unfold upB; rw [if_neg (by omega)])]
  unfold upB
  rw [if_pos rfl]
theorem row_t {f : Nat → Bool} {t : Nat} {h : Bool} (e : h = true) (ht : t ≤ 12) : nI (rn_ f t) ||| (nI 1 <<< (nI t &&& 31)) = nI (rn_ (upB f t h) (t + 1)) := by
  have h1 := rn_lt f t
  have hp : 2 ^ t ≤ 2 ^ 12 := Nat.pow_le_pow_right (by decide) ht
  rw [pk_shlN (n := 1) (nI t &&& 31) t (sm31 t (by omega)) (by omega), Nat.one_mul, nI_or, Nat.or_comm]
  have h3 := Nat.two_pow_add_eq_or_of_lt h1 1
  rw [Nat.mul_one] at h3
  rw [← h3, upB_row, if_pos e, Nat.add_comm]
theorem row_f {f : Nat → Bool} {t : Nat} {h : Bool} (e : h = false) (ht : t ≤ 12) : nI (rn_ f t) ||| (nI 0 <<< (nI t &&& 31)) = nI (rn_ (upB f t h) (t + 1)) := by
  rw [pk_shlN (n := 0) (nI t &&& 31) t (sm31 t (by omega)) (by omega), Nat.zero_mul, nI_or, Nat.or_zero]
  rw [upB_row, if_neg (by rw [e]; simp)]
  rfl
/-! the greatest surprise, as the reference looks for it -/
theorem fS_i {v : VS} {i : Nat} (h : ¬ fS_ v i = -1) : 0 < i := by
  rcases Nat.eq_zero_or_pos i with q | q
  · exact absurd (by rw [q]; rfl) h
  · exact q
theorem fS_nI {v : VS} {i : Nat} (h : ¬ fS_ v i = -1) : fS_ v i = nI (gs_ v i) := if_neg (by have := fS_i h; omega)
theorem gs_le (v : VS) : ∀ n, gs_ v n ≤ n
  | 0 => Nat.le_refl 0
  | n + 1 => Nat.le_of_lt (gs_lt v (n + 1) (by omega))
theorem fS_0 {v : VS} {i : Nat} (h : fS_ v i = -1) (hi : i < 2 ^ 31) : i = 0 := by
  rcases Nat.eq_zero_or_pos i with q | q
  · exact q
  · unfold fS_ at h
    rw [if_neg (by omega)] at h
    have := gs_le v i
    exact absurd h (nI_nm1 (by omega))
theorem fS_1 {v : VS} {i : Nat} (h : fS_ v i = -1) (hi : i < 2 ^ 31) : nI i = fS_ v (i + 1) := by
  have e := fS_0 h hi
  subst e
  unfold fS_
  rw [if_neg (by omega)]
  have e1 : gs_ v (0 + 1) = 0 := by simp [gs_]
  rw [e1]
theorem fS_2 {v : VS} {i : Nat} (h2 : sa_ v (gs_ v i) < sa_ v i) : nI i = fS_ v (i + 1) := by
  unfold fS_
  rw [if_neg (by omega)]
  have e1 : gs_ v (i + 1) = i := if_pos h2
  rw [e1]
theorem fS_3 {v : VS} {i : Nat} (h : ¬ fS_ v i = -1) (h2 : sa_ v i ≤ sa_ v (gs_ v i)) : fS_ v i = fS_ v (i + 1) := by
  rw [fS_nI h]
  unfold fS_
  rw [if_neg (by omega)]
  have e1 : gs_ v (i + 1) = gs_ v i := if_neg (by omega)
  rw [e1]
