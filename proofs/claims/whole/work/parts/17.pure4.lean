/-! ===== bits: the reference's row of tosses ===== -/
theorem rn_lt (f : Nat → Bool) : ∀ n, rn_ f n < 2 ^ n
  | 0 => by simp [rn_]
  | n + 1 => by
    have h := rn_lt f n
    simp only [rn_, Nat.pow_succ]
    split <;> omega
theorem rn_congr {f g : Nat → Bool} : ∀ n, (∀ j, j < n → f j = g j) → rn_ f n = rn_ g n
  | 0, _ => rfl
  | n + 1, h => by simp only [rn_]; rw [rn_congr n (fun j hj => h j (by omega)), h n (by omega)]
theorem rn_app (f : Nat → Bool) (a : Nat) : ∀ b, rn_ f (a + b) = rn_ f a + 2 ^ a * rn_ (fun j => f (a + j)) b
  | 0 => by simp [rn_]
  | b + 1 => by
    show rn_ f (a + b) + (if f (a + b) then 2 ^ (a + b) else 0) = _
    rw [rn_app f a b]
    simp only [rn_, Nat.mul_add]
    by_cases h : f (a + b) = true
    · rw [if_pos h, if_pos h, Nat.pow_add]; omega
    · rw [if_neg h, if_neg h]; omega
theorem rn_small {f : Nat → Bool} {n : Nat} (h : n ≤ 12) : rn_ f n < 4096 := Nat.lt_of_lt_of_le (rn_lt f n) (Nat.le_trans (Nat.pow_le_pow_right (by decide) h) (by decide))
theorem rn_div {f : Nat → Bool} {k n : Nat} (h : k ≤ n) : rn_ f n / 2 ^ k = rn_ (fun j => f (k + j)) (n - k) := by
  obtain ⟨m, rfl⟩ : ∃ m, n = k + m := ⟨n - k, by omega⟩
  rw [rn_app, Nat.add_mul_div_left _ _ (Nat.two_pow_pos k), Nat.div_eq_of_lt (rn_lt f k), show k + m - k = m by omega]
  omega
theorem rn_mod {f : Nat → Bool} {k n : Nat} (h : k ≤ n) : rn_ f n % 2 ^ k = rn_ f k := by
  obtain ⟨m, rfl⟩ : ∃ m, n = k + m := ⟨n - k, by omega⟩
  rw [rn_app, Nat.add_mul_mod_self_left, Nat.mod_eq_of_lt (rn_lt f k)]
theorem rn_bit {f : Nat → Bool} {k n : Nat} (h : k < n) : rn_ f n / 2 ^ k % 2 = if f k then 1 else 0 := by
  rw [rn_div (by omega)]
  have e := rn_mod (f := fun j => f (k + j)) (k := 1) (n := n - k) (by omega)
  rw [Nat.pow_one] at e
  rw [e]
  simp [rn_]
theorem sm31 : ∀ i, i < 14 → ((nI i &&& 31).toBitVec.smod 32).toNat = i := by decide
theorem bit_at {f : Nat → Bool} {n i : Nat} (hi : i < n) (hn : n ≤ 12) : (nI (rn_ f n) >>> (nI i &&& 31)) &&& nI 1 = nI (if f i then 1 else 0) := by
  have h1 := rn_small (f := f) hn
  rw [pk_shrN (by omega) (nI i &&& 31) i (sm31 i (by omega))]
  have h2 : rn_ f n / 2 ^ i ≤ rn_ f n := Nat.div_le_self _ _
  rw [pk_andN (by omega) (m := nI 1) 1 (by decide), Nat.pow_one, rn_bit hi]
theorem nI_or (a b : Nat) : nI a ||| nI b = nI (a ||| b) := by
  apply Int32.toBitVec_inj.mp
  rw [Int32.toBitVec_or]
  show BitVec.ofNat 32 a ||| BitVec.ofNat 32 b = BitVec.ofNat 32 (a ||| b)
  rw [BitVec.ofNat_or]
theorem rn_sh {f : Nat → Bool} {k n : Nat} (h : k < n) : rn_ (sh_ f k (n - 1)) (n - 1) = rn_ f n % 2 ^ k + 2 ^ k * (rn_ f n / 2 ^ (k + 1)) := by
  rw [rn_mod (by omega), rn_div (by omega)]
  obtain ⟨m, rfl⟩ : ∃ m, n = k + 1 + m := ⟨n - (k + 1), by omega⟩
  rw [show k + 1 + m - 1 = k + m by omega, show k + 1 + m - (k + 1) = m by omega, rn_app]
  rw [rn_congr (f := sh_ f k (k + m)) (g := f) k (fun j hj => by unfold sh_; rw [if_neg (by omega)])]
  rw [rn_congr (f := fun j => sh_ f k (k + m) (k + j)) (g := fun j => f (k + 1 + j)) m (fun j hj => by
    show sh_ f k (k + m) (k + j) = f (k + 1 + j)
    unfold sh_
    rw [if_pos (by omega)]
    congr 1
    omega)]
theorem wo_eq {f : Nat → Bool} {k n : Nat} (h : k < n) (hn : n ≤ 12) : (nI (rn_ f n) &&& ((nI 1 <<< (nI k &&& 31)) - nI 1)) ||| ((nI (rn_ f n) >>> (nI (k + 1) &&& 31)) <<< (nI k &&& 31)) = nI (rn_ (sh_ f k (n - 1)) (n - 1)) := by
  have h1 := rn_small (f := f) hn
  have hp : 2 ^ k ≤ 2 ^ 12 := Nat.pow_le_pow_right (by decide) (by omega)
  have hp0 : 0 < 2 ^ k := Nat.two_pow_pos k
  rw [pk_shlN (n := 1) (nI k &&& 31) k (sm31 k (by omega)) (by omega), Nat.one_mul, pk_sub (by omega)]
  rw [pk_andN (by omega) (m := nI (2 ^ k - 1)) k (by rw [pk_tn (by omega)])]
  rw [pk_shrN (by omega) (nI (k + 1) &&& 31) (k + 1) (sm31 (k + 1) (by omega))]
  have h2 : rn_ f n / 2 ^ (k + 1) ≤ rn_ f n := Nat.div_le_self _ _
  have h3 : rn_ f n / 2 ^ (k + 1) * 2 ^ k ≤ 4096 * 2 ^ 12 := Nat.mul_le_mul (by omega) hp
  rw [pk_shlN (nI k &&& 31) k (sm31 k (by omega)) (by omega), nI_or]
  rw [rn_sh h, Nat.mul_comm (rn_ f n / 2 ^ (k + 1)), Nat.or_comm]
  rw [← Nat.two_pow_add_eq_or_of_lt (Nat.mod_lt _ hp0), Nat.add_comm]
theorem up_t {b : Bool} (h : (if b then 1 else 0) = 1) : nI 1 = bI b := by cases b; exact absurd h (by decide); rfl
theorem up_f {b : Bool} (h : (if b then 1 else 0) ≠ 1) : nI 0 = bI b := by cases b; rfl; exact absurd rfl h
/-! tests of the reference -/
def ii_ (x lo hi : Int32) : Bool := decide (lo ≤ x) && decide (x ≤ hi)
theorem ii_t {x lo hi : Int32} (h1 : ¬ x < lo) (h2 : ¬ hi < x) : nI 1 = bI (ii_ x lo hi) := by
  unfold ii_
  rw [decide_eq_true (Int32.not_lt.mp h1), decide_eq_true (Int32.not_lt.mp h2)]
  rfl
theorem ii_f1 {x lo hi : Int32} (h : x < lo) : nI 0 = bI (ii_ x lo hi) := by
  unfold ii_
  rw [decide_eq_false (Int32.not_le.mpr h)]
  rfl
theorem ii_f2 {x lo hi : Int32} (h : hi < x) : nI 0 = bI (ii_ x lo hi) := by
  unfold ii_
  rw [decide_eq_false (Int32.not_le.mpr h), Bool.and_false]
  rfl
theorem ii_ix (x : Int32) {n : Nat} (hn : n < 2 ^ 31) : ii_ x (nI 0) (nI n - nI 1) = ix_ x n := by
  unfold ii_ ix_
  have e : (nI n - nI 1).toInt = (n : Int) - 1 := by
    rcases Nat.eq_zero_or_pos n with q | q
    · subst q; decide
    · rw [pk_sub (by omega), nI_toInt (by omega)]; omega
  have e0 : (nI 0).toInt = 0 := by decide
  rw [← Bool.decide_and]
  apply decide_eq_decide.mpr
  rw [Int32.le_iff_toInt_le, Int32.le_iff_toInt_le, e, e0]
  omega
theorem ii_ir (x : Int32) {a b : Nat} (ha : a < 2 ^ 31) (hb : b < 2 ^ 31) : ii_ x (nI a) (nI b) = ir_ x a b := by
  unfold ii_ ir_
  rw [← Bool.decide_and]
  apply decide_eq_decide.mpr
  rw [Int32.le_iff_toInt_le, Int32.le_iff_toInt_le, nI_toInt ha, nI_toInt hb]
theorem ms_at {v : VS} {s c : Nat} (h1 : s < vs_n v) (h2 : c < vs_c v) (h4 : s < 4) : ms_ v (4 * c + s) = vs_sh v s c := by
  unfold ms_
  rw [show (4 * c + s) % 4 = s by omega, show (4 * c + s) / 4 = c by omega, if_pos ⟨h1, h2⟩]
theorem su_big {d L i : Nat} (hd : 0 < d) (hi : i = 60) (hL : L ≤ 25920000000000000) : ¬ 2 ^ i * (2 * d) ≤ L := by
  subst hi
  omega
theorem ld_exit {v : VS} {a b i : Nat} (h : i = vs_c v - 1 + 1) : ld_ v a b i = ld_ v a b (vs_c v) := by
  rcases Nat.eq_zero_or_pos (vs_c v) with q | q
  · rw [h, q]
    simp [ld_]
  · rw [h, show vs_c v - 1 + 1 = vs_c v by omega]
theorem lsc_exit {v : VS} {a b i : Nat} (h : i = vs_n v - 1 + 1) : lsc_ v a b i = lsc_ v a b (vs_n v) := by
  rcases Nat.eq_zero_or_pos (vs_n v) with q | q
  · rw [h, q]
    simp [lsc_]
  · rw [h, show vs_n v - 1 + 1 = vs_n v by omega]
theorem fi_1 {v : VS} {c a b : Nat} (h1 : 0 < wt_ v c a b) (h2 : ld_ v a b (vs_c v) = c) : nI 1 = bI (fi_ v c a b) := by
  unfold fi_
  rw [decide_eq_true h1, decide_eq_true h2]
  rfl
theorem fi_2 {v : VS} {c a b : Nat} (h1 : wt_ v c a b ≤ 0) : nI 0 = bI (fi_ v c a b) := by
  unfold fi_
  rw [decide_eq_false (by omega)]
  rfl
theorem fi_3 {v : VS} {c a b : Nat} (h2 : ld_ v a b (vs_c v) ≠ c) : nI 0 = bI (fi_ v c a b) := by
  unfold fi_
  rw [decide_eq_false h2, Bool.and_false]
  rfl
theorem ttl_fit1 {v : VS} {c i : Nat} (hj : tl_ v c = sr_ (tp_ v c) (13 - vs_t v - i) i) (hi : i < 13 - vs_t v) (h : fi_ v c (hh_ v + i) (tt_ v) = true) : nI i = tl_ v c := by
  rw [hj, sr_hit (by omega)]
  unfold tp_
  rw [h]
  rfl
theorem ttl_fit2 {v : VS} {c i : Nat} (hj : tl_ v c = sr_ (tp_ v c) (13 - vs_t v - i) i) (hi : i < 13 - vs_t v) (h : fi_ v c (hh_ v) (tt_ v + i) = true) : nI i = tl_ v c := by
  rw [hj, sr_hit (by omega)]
  unfold tp_
  rw [h, Bool.or_true]
theorem ttl_fiss {v : VS} {c i : Nat} (hj : tl_ v c = sr_ (tp_ v c) (13 - vs_t v - i) i) (hi : i < 13 - vs_t v) (h1 : fi_ v c (hh_ v + i) (tt_ v) = false) (h2 : fi_ v c (hh_ v) (tt_ v + i) = false) : tl_ v c = sr_ (tp_ v c) (13 - vs_t v - (i + 1)) (i + 1) := by
  rw [hj, sr_miss (by omega)]
  · rw [show 13 - vs_t v - i - 1 = 13 - vs_t v - (i + 1) by omega]
  · unfold tp_
    rw [h1, h2]
    rfl
/-- each noted toss could be -/
def pp_ (v : VS) : Prop := ∀ t, t < vs_t v → 0 < ch_ v (vs_th v t) (hd_ (vs_th v) t) (t - hd_ (vs_th v) t)
