/-! ===== what each writing call makes of the ladder ===== -/
def sh_ (f : Nat → Bool) (k i : Nat) : Nat → Bool := fun j => if k ≤ j ∧ j < i then f (j + 1) else f j
theorem sh_0 (f : Nat → Bool) (k : Nat) : sh_ f k k = f := by
  funext j
  unfold sh_
  rw [if_neg (by omega)]
theorem sh_s {f : Nat → Bool} {k i : Nat} (h : k ≤ i) : upB (sh_ f k i) i (sh_ f k i (i + 1)) = sh_ f k (i + 1) := by
  funext j
  unfold upB sh_
  by_cases e : j = i
  · subst e
    rw [if_pos rfl, if_neg (by omega), if_pos (by omega)]
  · rw [if_neg e]
    by_cases q : k ≤ j ∧ j < i
    · rw [if_pos q, if_pos (by omega)]
    · rw [if_neg q, if_neg (by omega)]
def nx_addCoin (v : VS) (x : Nat) : VS := ((vs_c v + 1, vs_n v, vs_t v), upN (vs_ct v) (vs_c v) x, vs_so v, vs_sh v, vs_th v)
def nx_addSchool (v : VS) (x : Nat) : VS := ((vs_c v, vs_n v + 1, vs_t v), vs_ct v, upN (vs_so v) (vs_n v) x, vs_sh v, vs_th v)
def nx_setShare (v : VS) (s c x : Nat) : VS := ((vs_c v, vs_n v, vs_t v), vs_ct v, vs_so v, up2 (vs_sh v) s c x, vs_th v)
def nx_toss (v : VS) (h : Bool) : VS := ((vs_c v, vs_n v, vs_t v + 1), vs_ct v, vs_so v, vs_sh v, upB (vs_th v) (vs_t v) h)
def nx_undo (v : VS) : VS := ((vs_c v, vs_n v, vs_t v - 1), vs_ct v, vs_so v, vs_sh v, vs_th v)
def nx_strike (v : VS) (k : Nat) : VS := ((vs_c v, vs_n v, vs_t v - 1), vs_ct v, vs_so v, vs_sh v, sh_ (vs_th v) k (vs_t v - 1))
