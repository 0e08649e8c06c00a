section RKC
variable {A : Nat → Nat → Int32} {L : Nat → Nat → Int64} {F : Nat → Nat → Int32} {g : Int32 → xm_H → Prop} {gv : xm_H → Prop} {w n p k j y e K : Nat} {x v z : Int32} {h : xm_H} {tc : (Nat → Int32) → Int32}
theorem fill {f s : Nat → Int32} {p : Nat} {v : Int32} (h : ∀ q, q < p → f q = s q) (hv : v = s p) : ∀ q, q < p + 1 → upd f p v q = s q := by
  intro q hq
  by_cases hqp : q = p
  · subst hqp; rw [p_eq]; exact hv
  · rw [p_ne hqp]; exact h q (by omega)
/-- what p would be assessed by if he were heard -/
def wgt (tc : (Nat → Int32) → Int32) (c : Nat → Int32) (n y p : Nat) : Int32 := if p < n ∧ c (24 + p) = 1 then cntW tc c n y p else 0
theorem w_in {S : List Nat} {A' : Nat → Nat → Int32} (hw : isW w) (h : Ag S A A') (hS : 2 ∉ S ∧ 4 ∉ S ∧ 22 ∉ S) : A' (w + 1) = A (w + 1) := h _ (by rcases hw with rfl | rfl | rfl <;> simp [hS])
def weighI (tc : (Nat → Int32) → Int32) (A : Nat → Nat → Int32) (L : Nat → Nat → Int64) (F : Nat → Nat → Int32) (w n y p : Nat) (h : xm_H) : Prop := ∃ A' F', h = HP A' L F' ∧ Ag [8, 9, 10] A A' ∧ (∀ q, q < p → A' 10 q = wgt tc (A (w + 1)) n y q) ∧ Ag [5] F F' ∧ (∀ k, k ≠ 5 → k ≠ 6 → F' 5 k = F 5 k) ∧ F' 5 5 = Int32.ofNat (nSay (hbt (A (w + 1))) n) ∧ F' 5 6 = Int32.ofNat (nGo (hbt (A (w + 1))) n)
set_option maxHeartbeats 1000000 in
theorem c_weigh (hK : 5 < K) (hw : isW w) (hn : F w 1 = Int32.ofNat n) (hn8 : n ≤ 8) (hy : y < 200) (he : A (w + 1) 64 = Int32.ofNat y) (ht : TXok A F tc) (H : ∀ A' F', Ag [8, 9, 10] A A' → (∀ p, p < 8 → A' 10 p = wgt tc (A (w + 1)) n y p) → Ag [5] F F' → (∀ k, k ≠ 5 → k ≠ 6 → F' 5 k = F 5 k) → gv (HP A' L F')) : xm_Call K sX4_weigh 4 [.ref 5, .ref w] (HP A L F) (xm_pv gv) := by
  refine eX4_weigh (K := 5) hK ⟨_, rfl⟩ (c_look (by omega) hw hn hn8 (fun F0 f1 f2 f3 f4 => ?_))
  refine xm_for (n := 8) (Q := fun p h => xm_L 5 sX4_weigh kX4_weigh 5 [some (.ref 5), some (.ref w), some (.int (Int32.ofNat p)), none] [] h (xm_pv gv)) (weighI tc A L F w n y) ?_ ?_ 0 _ (Nat.zero_le _) ⟨A, F0, rfl, Ag.rf, fun q hq => absurd hq (by omega), f1, f2, f3, f4⟩
  · rintro p h hp ⟨A', F', rfl, h1, h2, h3, h4, h5, h6⟩ ih
    have hn' : F' w 1 = Int32.ofNat n := by rw [h3 w (by simpa using w_ne hw)]; exact hn
    have hAw : A' (w + 1) = A (w + 1) := w_in hw h1 (by simp)
    refine xX4_weigh_5 ?_
    rw [if_pos (show Int32.ofNat p < (8 : Int32) from (n_lt (q := 8) (by omega) (by omega)).mpr hp)]
    by_cases hpn : p < n
    · refine c_has_t (by omega) hw hn' hn8 hpn ?_
      rw [if_neg (by decide)]
      refine c_get (k := 3) (by omega) hw hn' hn8 hpn (by omega) ?_
      by_cases hs : A' (w + 1) (8 * 3 + p) = 1
      · rw [if_pos hs]
        refine ⟨_, rfl, c_countsOf (tc := tc) (y := y) (by omega) hw hn' hn8 hpn hy (by rw [hAw]; exact he) (ht.to (h1 7 (by simp)) (h3 6 (by simp))) (by rw [hAw]; exact h5) (by rw [hAw]; exact h6) (fun A2 hA2 => ⟨_, sn_10 hp, ?_⟩)⟩
        rw [n_succ]
        refine ih _ ⟨_, _, rfl, Ag.up (Ag.tr h1 (hA2.mono (by simp))) (by simp), ?_, h3, h4, h5, h6⟩
        rw [u_eq]
        refine fill (fun q hq => by rw [hA2 10 (by simp)]; exact h2 q hq) ?_
        rw [hAw] at hs ⊢
        rw [wgt, if_pos ⟨hpn, hs⟩]
      · rw [if_neg hs]
        refine ⟨_, rfl, _, sn_10 hp, ?_⟩
        rw [n_succ]
        refine ih _ ⟨_, _, rfl, Ag.up h1 (by simp), ?_, h3, h4, h5, h6⟩
        rw [u_eq]
        refine fill h2 ?_
        rw [hAw] at hs
        rw [wgt, if_neg (fun q => hs q.2)]
    · refine c_has (n := n) (by omega) hw hn' hn8 (fun q hq e => absurd ((n_eq (by omega) (by omega)).mp e) (by omega)) (fun _ => ?_)
      rw [if_pos rfl]
      refine ⟨_, rfl, _, sn_10 hp, ?_⟩
      rw [n_succ]
      refine ih _ ⟨_, _, rfl, Ag.up h1 (by simp), ?_, h3, h4, h5, h6⟩
      rw [u_eq]
      refine fill h2 ?_
      rw [wgt, if_neg (fun q => hpn q.1)]
  · rintro h ⟨A', F', rfl, h1, h2, h3, h4, h5, h6⟩
    refine xX4_weigh_5 ?_
    rw [if_neg (by decide)]
    exact xm_pv_i (H A' F' h1 h2 h3 h4)
/-! sets as bits -/
def bitsN (f : Nat → Int32) : Nat → Nat
  | 0 => 0
  | n + 1 => bitsN f n + (if f n = 1 then 2 ^ n else 0)
theorem bitsN_lt (f : Nat → Int32) : ∀ n, bitsN f n < 2 ^ n
  | 0 => Nat.zero_lt_one
  | n + 1 => by
    have := bitsN_lt f n
    show bitsN f n + (if f n = 1 then 2 ^ n else 0) < 2 ^ (n + 1)
    rw [Nat.pow_succ]
    split <;> omega
theorem bitsN_bit (f : Nat → Int32) : ∀ n p, (bitsN f n).testBit p = decide (p < n ∧ f p = 1)
  | 0, p => by simp [bitsN]
  | n + 1, p => by
    have hb := bitsN_lt f n
    have ih := bitsN_bit f n p
    show (bitsN f n + (if f n = 1 then 2 ^ n else 0)).testBit p = _
    by_cases hf : f n = 1
    · rw [if_pos hf, Nat.add_comm]
      rcases Nat.lt_trichotomy p n with hp | hp | hp
      · rw [Nat.testBit_two_pow_add_gt hp, ih]
        have : (p < n + 1) ↔ p < n := by omega
        simp [this]
      · subst hp
        rw [Nat.testBit_two_pow_add_eq, Nat.testBit_lt_two_pow hb]
        simp [hf]
      · rw [Nat.testBit_lt_two_pow (Nat.lt_of_lt_of_le (show 2 ^ n + bitsN f n < 2 ^ (n + 1) by rw [Nat.pow_succ]; omega) (Nat.pow_le_pow_right (by omega) hp))]
        have : ¬ p < n + 1 := by omega
        simp [this]
    · rw [if_neg hf, Nat.add_zero, ih]
      by_cases hp : p = n
      · subst hp; simp [hf]
      · have : (p < n + 1) ↔ p < n := by omega
        simp [this]
theorem n_or1 : ∀ p, p < 8 → ∀ b, b < 2 ^ p → Int32.ofNat b ||| (1 <<< (Int32.ofNat p &&& 31)) = Int32.ofNat (b + 2 ^ p) := by decide +kernel
theorem n_or0 : ∀ p, p < 8 → ∀ b, b < 256 → Int32.ofNat b ||| (0 <<< (Int32.ofNat p &&& 31)) = Int32.ofNat b := by decide +kernel
theorem n_bit : ∀ e, e < 256 → ∀ p, p < 8 → (((Int32.ofNat e >>> (Int32.ofNat p &&& 31)) &&& 1 = 1) ↔ e.testBit p = true) := by decide +kernel
end RKC
