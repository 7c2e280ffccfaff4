/-! ===== what every state of a run keeps ===== -/
def iv_ (v : VS) : Prop := ok_v v ∧ un_ v ∧ (0 < vs_t v → 0 < wl_ v (hh_ v) (tt_ v))
theorem iv_1 : iv_ v1_ := by
  refine ⟨⟨by decide, by decide, by decide, fun _ => Nat.zero_le _, fun _ => Nat.zero_le _, fun _ _ => by show 1 ≤ 9; decide⟩, fun _ _ _ => rfl, fun h => absurd h (by show ¬ 0 < 0; decide)⟩
theorem pp_of {v : VS} (h : iv_ v) : pp_ v := by
  intro t ht
  have hw := h.2.2 (by omega)
  have e : ch_ v (vs_th v t) (hd_ (vs_th v) t) (t - hd_ (vs_th v) t) = wl_ v (hd_ (vs_th v) (t + 1)) (t + 1 - hd_ (vs_th v) (t + 1)) := by
    have hl := hd_le (vs_th v) t
    unfold ch_
    show _ = wl_ v (hd_ (vs_th v) t + (if vs_th v t then 1 else 0)) (t + 1 - (hd_ (vs_th v) t + (if vs_th v t then 1 else 0)))
    by_cases q : vs_th v t = true
    · rw [if_pos q, if_pos q]
      congr 1
      omega
    · rw [if_neg q, if_neg q]
      congr 1
      omega
  rw [e]
  refine wl_pos_of_le (a' := hh_ v) (b' := tt_ v) ?_ ?_ hw
  · have := hd_mono (vs_th v) (t + 1) (vs_t v - (t + 1))
    rw [show t + 1 + (vs_t v - (t + 1)) = vs_t v by omega] at this
    exact this
  · have := hd_tmono (vs_th v) (t + 1) (vs_t v - (t + 1))
    rw [show t + 1 + (vs_t v - (t + 1)) = vs_t v by omega] at this
    exact this
theorem iv_addCoin {v : VS} (h : iv_ v) {x : Nat} (hx : x ≤ 10) (hc : vs_c v < 8) (h0 : vs_t v = 0) : iv_ (nx_addCoin v x) := by
  obtain ⟨⟨h1, h2, h3, h4, h5, h6⟩, hu, hw⟩ := h
  refine ⟨⟨by show vs_c v + 1 ≤ 8; omega, h2, h3, fun c => ?_, h5, h6⟩, fun s c q => ?_, fun z => absurd z (by show ¬ 0 < vs_t v; omega)⟩
  · show (if c = vs_c v then x else vs_ct v c) ≤ 10
    split
    · exact hx
    · exact h4 c
  · exact hu s c (q.imp id (fun z => by have z2 : vs_c v + 1 ≤ c := z; omega))
theorem iv_addSchool {v : VS} (h : iv_ v) {x : Nat} (hx : x ≤ 9) (hc : vs_n v < 4) (h0 : vs_t v = 0) : iv_ (nx_addSchool v x) := by
  obtain ⟨⟨h1, h2, h3, h4, h5, h6⟩, hu, hw⟩ := h
  refine ⟨⟨h1, by show vs_n v + 1 ≤ 4; omega, h3, h4, fun s => ?_, h6⟩, fun s c q => ?_, fun z => absurd z (by show ¬ 0 < vs_t v; omega)⟩
  · show (if s = vs_n v then x else vs_so v s) ≤ 9
    split
    · exact hx
    · exact h5 s
  · exact hu s c (q.imp (fun z => by have z2 : vs_n v + 1 ≤ s := z; omega) id)
theorem iv_setShare {v : VS} (h : iv_ v) {s c x : Nat} (hs : s < vs_n v) (hc : c < vs_c v) (hx : x ≤ 9) (h0 : vs_t v = 0) : iv_ (nx_setShare v s c x) := by
  obtain ⟨⟨h1, h2, h3, h4, h5, h6⟩, hu, hw⟩ := h
  refine ⟨⟨h1, h2, h3, h4, h5, fun i j => ?_⟩, fun i j q => ?_, fun z => absurd z (by show ¬ 0 < vs_t v; omega)⟩
  · show (if i = s ∧ j = c then x else vs_sh v i j) ≤ 9
    split
    · exact hx
    · exact h6 i j
  · show (if i = s ∧ j = c then x else vs_sh v i j) = 1
    have q2 : vs_n v ≤ i ∨ vs_c v ≤ j := q
    rw [if_neg (by omega)]
    exact hu i j q2
theorem hd_congr {f g : Nat → Bool} : ∀ n, (∀ j, j < n → f j = g j) → hd_ f n = hd_ g n
  | 0, _ => rfl
  | n + 1, h => by simp only [hd_]; rw [hd_congr n (fun j hj => h j (by omega)), h n (by omega)]
theorem iv_toss {v : VS} (h : iv_ v) {b : Bool} (ht : vs_t v < 12) (hp : 0 < ch_ v b (hh_ v) (tt_ v)) : iv_ (nx_toss v b) := by
  obtain ⟨⟨h1, h2, h3, h4, h5, h6⟩, hu, hw⟩ := h
  refine ⟨⟨h1, h2, by show vs_t v + 1 ≤ 12; omega, h4, h5, h6⟩, hu, fun _ => ?_⟩
  have e1 : hh_ (nx_toss v b) = hh_ v + (if b then 1 else 0) := by
    show hd_ (upB (vs_th v) (vs_t v) b) (vs_t v) + (if upB (vs_th v) (vs_t v) b (vs_t v) then 1 else 0) = _
    have e2 : hd_ (upB (vs_th v) (vs_t v) b) (vs_t v) = hd_ (vs_th v) (vs_t v) := hd_congr _ (fun j hj => by unfold upB; rw [if_neg (by omega)])
    rw [e2]
    unfold upB
    rw [if_pos rfl]
    rfl
  have e3 : tt_ (nx_toss v b) = vs_t v + 1 - (hh_ v + (if b then 1 else 0)) := by
    show vs_t v + 1 - hh_ (nx_toss v b) = _
    rw [e1]
  rw [e1, e3]
  have hht := hh_tt v
  show 0 < wl_ v _ _
  unfold ch_ at hp
  cases b
  · rw [if_neg (by decide)] at hp
    simp only [Bool.false_eq_true, if_false]
    rw [show vs_t v + 1 - (hh_ v + 0) = tt_ v + 1 by omega]
    exact hp
  · rw [if_pos rfl] at hp
    simp only [if_true]
    rw [show vs_t v + 1 - (hh_ v + 1) = tt_ v by omega]
    exact hp
theorem iv_undo {v : VS} (h : iv_ v) (h0 : 0 < vs_t v) : iv_ (nx_undo v) := by
  obtain ⟨⟨h1, h2, h3, h4, h5, h6⟩, hu, hw⟩ := h
  refine ⟨⟨h1, h2, by show vs_t v - 1 ≤ 12; omega, h4, h5, h6⟩, hu, fun _ => ?_⟩
  show 0 < wl_ v (hd_ (vs_th v) (vs_t v - 1)) (vs_t v - 1 - hd_ (vs_th v) (vs_t v - 1))
  refine wl_pos_of_le ?_ ?_ (hw h0)
  · have := hd_mono (vs_th v) (vs_t v - 1) 1
    rw [show vs_t v - 1 + 1 = vs_t v by omega] at this
    exact this
  · have := hd_tmono (vs_th v) (vs_t v - 1) 1
    rw [show vs_t v - 1 + 1 = vs_t v by omega] at this
    exact this
theorem hd_sh (f : Nat → Bool) {k : Nat} : ∀ m, hd_ (sh_ f k (k + m)) (k + m) + (if f k then 1 else 0) = hd_ f (k + m + 1)
  | 0 => by
    rw [Nat.add_zero, sh_0]
    rfl
  | m + 1 => by
    have h := hd_sh f (k := k) m
    have e : hd_ (sh_ f k (k + (m + 1))) (k + m) = hd_ (sh_ f k (k + m)) (k + m) := hd_congr _ (fun j hj => by
      unfold sh_
      by_cases q : k ≤ j
      · rw [if_pos (by omega), if_pos (by omega)]
      · rw [if_neg (by omega), if_neg (by omega)])
    show hd_ (sh_ f k (k + (m + 1))) (k + m) + (if sh_ f k (k + (m + 1)) (k + m) then 1 else 0) + _ = hd_ f (k + m + 1) + (if f (k + m + 1) then 1 else 0)
    rw [e, ← h]
    have e2 : sh_ f k (k + (m + 1)) (k + m) = f (k + m + 1) := by
      unfold sh_
      rw [if_pos (by omega)]
    rw [e2]
    omega
theorem iv_strike {v : VS} (h : iv_ v) {k : Nat} (hk : k < vs_t v) : iv_ (nx_strike v k) := by
  obtain ⟨⟨h1, h2, h3, h4, h5, h6⟩, hu, hw⟩ := h
  refine ⟨⟨h1, h2, by show vs_t v - 1 ≤ 12; omega, h4, h5, h6⟩, hu, fun _ => ?_⟩
  have e := hd_sh (vs_th v) (k := k) (vs_t v - 1 - k)
  rw [show k + (vs_t v - 1 - k) = vs_t v - 1 by omega, show vs_t v - 1 + 1 = vs_t v by omega] at e
  have hl := hd_le (sh_ (vs_th v) k (vs_t v - 1)) (vs_t v - 1)
  have hl2 := hd_le (vs_th v) (vs_t v)
  show 0 < wl_ v (hd_ (sh_ (vs_th v) k (vs_t v - 1)) (vs_t v - 1)) (vs_t v - 1 - hd_ (sh_ (vs_th v) k (vs_t v - 1)) (vs_t v - 1))
  have hs : (if vs_th v k = true then 1 else 0) ≤ 1 := by split <;> omega
  refine wl_pos_of_le (a' := hh_ v) (b' := tt_ v) ?_ ?_ (hw (by omega))
  · unfold hh_
    omega
  · unfold tt_ hh_
    omega
