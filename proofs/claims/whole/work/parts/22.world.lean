section WLD
variable {A : Nat → Nat → Int32} {L : Nat → Nat → Int64} {F : Nat → Nat → Int32} {g : Int32 → xm_H → Prop} {gv : xm_H → Prop} {w n p k j y K : Nat} {x v z : Int32} {h : xm_H}
theorem xm_pi_i (H : g x h) : xm_pi g (some (.int x)) h := ⟨x, rfl, H⟩
theorem xm_pv_i (H : gv h) : xm_pv gv none h := ⟨rfl, H⟩
theorem xm_pl_i {gl : Int64 → xm_H → Prop} {y : Int64} (H : gl y h) : xm_pl gl (some (.long y)) h := ⟨y, rfl, H⟩
def isW (w : Nat) : Prop := w = 1 ∨ w = 3 ∨ w = 21
theorem w_obj (hw : isW w) : ∃ fs, (HP A L F)[w]? = some (.inr (7, fs)) := by rcases hw with rfl | rfl | rfl <;> exact ⟨_, rfl⟩
theorem w_cells (hw : isW w) : xm_fld (HP A L F) w 7 0 = some (.ref (w + 1)) := by rcases hw with rfl | rfl | rfl <;> rfl
theorem w_people (hw : isW w) : xm_fld (HP A L F) w 7 1 = some (.int (F w 1)) := by rcases hw with rfl | rfl | rfl <;> rfl
theorem w_ld (hw : isW w) (hj : j < 67) : xm_ld xm_st (HP A L F) 0 (w + 1) (Int32.ofNat j) = some (A (w + 1) j) := by
  rcases hw with rfl | rfl | rfl
  · exact ln_2 hj
  · exact ln_4 hj
  · exact ln_22 hj
theorem w_sto (hw : isW w) (hj : j < 67) : xm_sto (HP A L F) 0 (w + 1) (Int32.ofNat j) x = some (HP (va_up A (w + 1) (upd (A (w + 1)) j x)) L F) := by
  rcases hw with rfl | rfl | rfl
  · exact sn_2 hj
  · exact sn_4 hj
  · exact sn_22 hj
theorem w_put (hw : isW w) : xm_put (HP A L F) w 7 1 (.int v) = some (HP A L (va_up F w (va_up (F w) 1 v))) := by
  rcases hw with rfl | rfl | rfl <;> rfl
/-- has(p), one who is there -/
theorem c_has_t (hK : 0 < K) (hw : isW w) (hn : F w 1 = Int32.ofNat n) (hn8 : n ≤ 8) (hp : p < n) (H : g (1) (HP A L F)) : xm_Call K sX7_has 7 [.ref w, .int (Int32.ofNat p)] (HP A L F) (xm_pi g) := by
  refine eX7_has (K := 0) hK (w_obj hw) ?_
  rw [if_neg (xs_nn (by omega))]
  refine ⟨_, w_people hw, ?_⟩
  rw [hn, if_pos ((n_lt (by omega) (by omega)).mpr hp)]
  exact xm_pi_i H
/-- has(x), any x -/
theorem c_has (hK : 0 < K) (hw : isW w) (hn : F w 1 = Int32.ofNat n) (hn8 : n ≤ 8) (H : ∀ p, p < n → x = Int32.ofNat p → g 1 (HP A L F)) (H2 : (x < 0 ∨ ¬ x < Int32.ofNat n) → g 0 (HP A L F)) : xm_Call K sX7_has 7 [.ref w, .int x] (HP A L F) (xm_pi g) := by
  refine eX7_has (K := 0) hK (w_obj hw) ?_
  by_cases h0 : x < 0
  · rw [if_pos h0]; exact xm_pi_i (H2 (Or.inl h0))
  · rw [if_neg h0]
    refine ⟨_, w_people hw, ?_⟩
    rw [hn]
    by_cases h1 : x < Int32.ofNat n
    · rw [if_pos h1]
      obtain ⟨p, hp, he⟩ := n_of (by omega) h0 h1
      exact xm_pi_i (H p hp he)
    · rw [if_neg h1]; exact xm_pi_i (H2 (Or.inr h1))
theorem c_cell_p (hK : 0 < K) (hw : isW w) (hn : F w 1 = Int32.ofNat n) (hn8 : n ≤ 8) (hp : p < n) (hk : k < 7) (H : g (Int32.ofNat (8 * k + p)) (HP A L F)) : xm_Call K sX7_cellOf 7 [.ref w, .int (Int32.ofNat p), .int (Int32.ofNat k)] (HP A L F) (xm_pi g) := by
  refine eX7_cellOf (K := 0) hK (w_obj hw) ?_
  have h10 : ¬ (10 : Int32) < Int32.ofNat k := fun h => absurd ((n_lt (p := 10) (by omega) (by omega)).mp h) (by omega)
  have h6 : ¬ (6 : Int32) < Int32.ofNat k := fun h => absurd ((n_lt (p := 6) (by omega) (by omega)).mp h) (by omega)
  rw [if_neg (xs_nn (by omega)), if_neg (xs_nn (by omega)), if_neg h10, if_neg h6]
  refine ⟨_, w_people hw, ?_⟩
  rw [hn, if_pos ((n_lt (by omega) (by omega)).mpr hp)]
  have he : Int32.ofNat k * (8 : Int32) + Int32.ofNat p = Int32.ofNat (8 * k + p) := by
    rw [show (8 : Int32) = Int32.ofNat 8 from rfl, n_mul, n_add, Nat.mul_comm]
  rw [he]
  exact xm_pi_i H
/-- the year, the rate, the boast -/
theorem c_cell_b (hK : 0 < K) (hw : isW w) (hk : 8 ≤ k) (hk2 : k < 11) (H : g (Int32.ofNat (56 + k)) (HP A L F)) : xm_Call K sX7_cellOf 7 [.ref w, .int 0, .int (Int32.ofNat k)] (HP A L F) (xm_pi g) := by
  refine eX7_cellOf (K := 0) hK (w_obj hw) ?_
  rcases (show k = 8 ∨ k = 9 ∨ k = 10 by omega) with rfl | rfl | rfl <;> exact xm_pi_i H
theorem c_get (hK : 1 < K) (hw : isW w) (hn : F w 1 = Int32.ofNat n) (hn8 : n ≤ 8) (hp : p < n) (hk : k < 7) (H : g (A (w + 1) (8 * k + p)) (HP A L F)) : xm_Call K sX7_get 7 [.ref w, .int (Int32.ofNat p), .int (Int32.ofNat k)] (HP A L F) (xm_pi g) := by
  refine eX7_get (K := 1) hK (w_obj hw) (c_cell_p (by omega) hw hn hn8 hp hk ?_)
  rw [if_neg (xs_nn (by omega))]
  exact ⟨_, w_cells hw, _, w_ld hw (by omega), xm_pi_i H⟩
theorem c_get_b (hK : 1 < K) (hw : isW w) (hk : 8 ≤ k) (hk2 : k < 11) (H : g (A (w + 1) (56 + k)) (HP A L F)) : xm_Call K sX7_get 7 [.ref w, .int 0, .int (Int32.ofNat k)] (HP A L F) (xm_pi g) := by
  refine eX7_get (K := 1) hK (w_obj hw) (c_cell_b (by omega) hw hk hk2 ?_)
  rw [if_neg (xs_nn (by omega))]
  exact ⟨_, w_cells hw, _, w_ld hw (by omega), xm_pi_i H⟩
theorem c_set (hK : 1 < K) (hw : isW w) (hn : F w 1 = Int32.ofNat n) (hn8 : n ≤ 8) (hp : p < n) (hk : k < 7) (H : gv (HP (va_up A (w + 1) (upd (A (w + 1)) (8 * k + p) x)) L F)) : xm_Call K sX7_set 7 [.ref w, .int (Int32.ofNat p), .int (Int32.ofNat k), .int x] (HP A L F) (xm_pv gv) := by
  refine eX7_set (K := 1) hK (w_obj hw) (c_cell_p (by omega) hw hn hn8 hp hk ?_)
  rw [if_neg (xs_nn (by omega))]
  exact ⟨_, w_cells hw, _, w_sto hw (by omega), xm_pv_i H⟩
theorem c_set_b (hK : 1 < K) (hw : isW w) (hk : 8 ≤ k) (hk2 : k < 11) (H : gv (HP (va_up A (w + 1) (upd (A (w + 1)) (56 + k) x)) L F)) : xm_Call K sX7_set 7 [.ref w, .int 0, .int (Int32.ofNat k), .int x] (HP A L F) (xm_pv gv) := by
  refine eX7_set (K := 1) hK (w_obj hw) (c_cell_b (by omega) hw hk hk2 ?_)
  rw [if_neg (xs_nn (by omega))]
  exact ⟨_, w_cells hw, _, w_sto hw (by omega), xm_pv_i H⟩
theorem n_fm : ∀ y, y < 200 → (Int32.ofNat y ^^^ 8 < 0 ↔ False) ∧ Int32.ofNat y - Int32.ofNat y / 8 * 8 = Int32.ofNat (y % 8) := by decide +kernel
theorem c_floorMod (hK : 0 < K) (hy : y < 200) (H : g (Int32.ofNat (y % 8)) h) : xm_Call K sJ9_floorMod_7cf53 99 [.int (Int32.ofNat y), .int 8] h (xm_pi g) := by
  refine eJ9_floorMod_7cf53 (K := 0) hK ⟨by decide, ?_⟩
  rw [if_neg (fun h => (n_fm y hy).1.mp h), (n_fm y hy).2]
  exact xm_pi_i H
theorem c_snow (hK : 1 < K) (hw : isW w) (hy : y < 200) (he : A (w + 1) 64 = Int32.ofNat y) (H : g (A (w + 1) (56 + y % 8)) (HP A L F)) : xm_Call K sX7_snow 7 [.ref w] (HP A L F) (xm_pi g) := by
  refine eX7_snow (K := 1) hK (w_obj hw) ⟨_, w_cells hw, _, w_cells hw, _, w_ld (j := 64) hw (by omega), ?_⟩
  rw [he]
  refine c_floorMod (by omega) hy ?_
  rw [show (56 : Int32) = Int32.ofNat 56 from rfl, n_add]
  exact ⟨_, w_ld hw (by omega), xm_pi_i H⟩
theorem c_setSnow (hK : 1 < K) (hw : isW w) (hy : y < 200) (he : A (w + 1) 64 = Int32.ofNat y) (H : gv (HP (va_up A (w + 1) (upd (A (w + 1)) (56 + y % 8) x)) L F)) : xm_Call K sX7_setSnow 7 [.ref w, .int x] (HP A L F) (xm_pv gv) := by
  refine eX7_setSnow (K := 1) hK (w_obj hw) ⟨_, w_cells hw, _, w_cells hw, _, w_ld (j := 64) hw (by omega), ?_⟩
  rw [he]
  refine c_floorMod (by omega) hy ?_
  rw [show (56 : Int32) = Int32.ofNat 56 from rfl, n_add]
  exact ⟨_, w_sto hw (by omega), xm_pv_i H⟩
theorem c_max (hK : 0 < K) (H : g (if x < z then z else x) h) : xm_Call K sJ9_max_7cf53 99 [.int x, .int z] h (xm_pi g) := by
  refine eJ9_max_7cf53 (K := 0) hK ?_
  split
  · next hc => rw [if_pos hc] at H; exact xm_pi_i H
  · next hc => rw [if_neg hc] at H; exact xm_pi_i H
theorem c_min (hK : 0 < K) (H : g (if z < x then z else x) h) : xm_Call K sJ9_min_7cf53 99 [.int x, .int z] h (xm_pi g) := by
  refine eJ9_min_7cf53 (K := 0) hK ?_
  split
  · next hc => rw [if_pos hc] at H; exact xm_pi_i H
  · next hc => rw [if_neg hc] at H; exact xm_pi_i H
theorem w_cpI (hd : w = 3 ∨ w = 21) : xm_cpI (HP A L F) 2 0 (w + 1) 0 67 = some (HP (va_up A (w + 1) (va_cpy (A 2) (A (w + 1)) 0 0 67)) L F) := by
  rcases hd with rfl | rfl <;> rfl
/-- copy(now) -/
theorem c_copy (hK : 0 < K) (hd : w = 3 ∨ w = 21) (H : ∀ c : Nat → Int32, (∀ k, k < 67 → c k = A 2 k) → gv (HP (va_up A (w + 1) c) L (va_up F w (va_up (F w) 1 (F 1 1))))) : xm_Call K sX7_copy 7 [.ref w, .ref 1] (HP A L F) (xm_pv gv) := by
  have hw : isW w := by rcases hd with rfl | rfl <;> simp [isW]
  refine eX7_copy (K := 0) hK (w_obj hw) ⟨_, rfl, _, w_cells hw, _, w_cpI hd, _, w_people (Or.inl rfl), _, w_put hw, xm_pv_i (H _ (fun k hk => ?_))⟩
  rw [va_cpy, if_pos ⟨Nat.zero_le _, by omega⟩]
  congr 1
  omega
end WLD
