section RKD
variable {A : Nat → Nat → Int32} {L : Nat → Nat → Int64} {F : Nat → Nat → Int32} {g : Int32 → xm_H → Prop} {gv : xm_H → Prop} {w n p k j y e K : Nat} {x v z : Int32} {h : xm_H} {tc : (Nat → Int32) → Int32}
def hrd (c : Nat → Int32) : Nat → Int32 := fun q => c (40 + q)
theorem c_ears (hK : 2 < K) (hw : isW w) (hn : F w 1 = Int32.ofNat n) (hn8 : n ≤ 8) (hh : ∀ p, p < n → A (w + 1) (40 + p) = 0 ∨ A (w + 1) (40 + p) = 1) (H : g (Int32.ofNat (bitsN (hrd (A (w + 1))) n)) (HP A L F)) : xm_Call K sX7_ears 7 [.ref w] (HP A L F) (xm_pi g) := by
  refine eX7_ears (K := 2) hK (w_obj hw) ?_
  refine xm_for (n := n) (Q := fun p h => xm_L 2 sX7_ears kX7_ears 4 [some (.ref w), some (.int (Int32.ofNat (bitsN (hrd (A (w + 1))) p))), some (.int (Int32.ofNat p))] [] h (xm_pi g)) (fun _ h => h = HP A L F) ?_ ?_ 0 _ (Nat.zero_le _) rfl
  · rintro p h hp rfl ih
    refine xX7_ears_4 ⟨_, w_people hw, ?_⟩
    rw [hn, if_pos ((n_lt (by omega) (by omega)).mpr hp)]
    refine c_get (k := 5) (by omega) hw hn hn8 hp (by omega) ?_
    have hb := bitsN_lt (hrd (A (w + 1))) p
    have h8 : 2 ^ p ≤ 2 ^ 8 := Nat.pow_le_pow_right (by omega) (by omega)
    have hi := ih _ rfl
    rw [n_succ]
    rcases hh p hp with h0 | h1
    · rw [h0, n_or0 p (by omega) _ (by omega)]
      have : bitsN (hrd (A (w + 1))) (p + 1) = bitsN (hrd (A (w + 1))) p := by
        show _ + _ = _
        rw [if_neg (show ¬ hrd (A (w + 1)) p = 1 by rw [hrd, h0]; decide), Nat.add_zero]
      rw [this] at hi
      exact hi
    · rw [h1, n_or1 p (by omega) _ hb]
      have : bitsN (hrd (A (w + 1))) (p + 1) = bitsN (hrd (A (w + 1))) p + 2 ^ p := by
        show _ + _ = _
        rw [if_pos (show hrd (A (w + 1)) p = 1 from h1)]
      rw [this] at hi
      exact hi
  · rintro h rfl
    refine xX7_ears_4 ⟨_, w_people hw, ?_⟩
    rw [hn, if_neg (fun q => absurd ((n_lt (by omega) (by omega)).mp q) (by omega))]
    exact xm_pi_i H
def sumN (f : Nat → Int32) : Nat → Int32
  | 0 => 0
  | n + 1 => sumN f n + f n
theorem sumN_eq {f s : Nat → Int32} : ∀ n, (∀ q, q < n → f q = s q) → sumN f n = sumN s n
  | 0, _ => rfl
  | n + 1, h => by show sumN f n + f n = sumN s n + s n; rw [sumN_eq n (fun q hq => h q (by omega)), h n (by omega)]
def asd (e : Nat) (wt : Nat → Int32) (p : Nat) : Int32 := if e.testBit p = true then wt p else 0
def whl (c : Nat → Int32) (y : Nat) : Int32 := c (56 + y % 8) * c 65
def shr (e : Nat) (wt : Nat → Int32) (wh : Int32) (p : Nat) : Int32 := if sumN (asd e wt) 8 = 0 then 0 else wh * asd e wt p / sumN (asd e wt) 8
def soI1 (A : Nat → Nat → Int32) (L : Nat → Nat → Int64) (F : Nat → Nat → Int32) (wh : Int32) (e p : Nat) (h : xm_H) : Prop := ∃ A' F', h = HP A' L F' ∧ Ag [11] A A' ∧ (∀ q, q < p → A' 11 q = asd e (A 10) q) ∧ Ag [5] F F' ∧ (∀ k, k ≠ 7 → k ≠ 8 → k ≠ 9 → F' 5 k = F 5 k) ∧ F' 5 7 = wh ∧ F' 5 8 = sumN (asd e (A 10)) p
def soI2 (A : Nat → Nat → Int32) (L : Nat → Nat → Int64) (F : Nat → Nat → Int32) (wh : Int32) (e p : Nat) (h : xm_H) : Prop := ∃ A' F', h = HP A' L F' ∧ Ag [11, 12] A A' ∧ (∀ q, q < 8 → A' 11 q = asd e (A 10) q) ∧ (∀ q, q < p → A' 12 q = shr e (A 10) wh q) ∧ Ag [5] F F' ∧ (∀ k, k ≠ 7 → k ≠ 8 → k ≠ 9 → F' 5 k = F 5 k) ∧ F' 5 7 = wh ∧ F' 5 8 = sumN (asd e (A 10)) 8 ∧ F' 5 9 = sumN (shr e (A 10) wh) p
set_option maxHeartbeats 1000000 in
theorem c_shareOut (hK : 2 < K) (hw : isW w) (hy : y < 200) (hey : A (w + 1) 64 = Int32.ofNat y) (he : e < 256) (H : ∀ A' F', Ag [11, 12] A A' → (∀ q, q < 8 → A' 11 q = asd e (A 10) q) → (∀ q, q < 8 → A' 12 q = shr e (A 10) (whl (A (w + 1)) y) q) → Ag [5] F F' → (∀ k, k ≠ 7 → k ≠ 8 → k ≠ 9 → F' 5 k = F 5 k) → F' 5 7 = whl (A (w + 1)) y → F' 5 8 = sumN (asd e (A 10)) 8 → F' 5 9 = sumN (shr e (A 10) (whl (A (w + 1)) y)) 8 → gv (HP A' L F')) : xm_Call K sX4_shareOut 4 [.ref 5, .ref w, .int (Int32.ofNat e)] (HP A L F) (xm_pv gv) := by
  refine eX4_shareOut (K := 2) hK ⟨_, rfl⟩ (c_snow (y := y) (by omega) hw hy hey (c_get_b (k := 9) (by omega) hw (by omega) (by omega) ⟨_, p_5_7, _, p_5_8, ?_⟩))
  refine xm_for (n := 8) (Q := fun p h => xm_L 2 sX4_shareOut kX4_shareOut 14 [some (.ref 5), none, some (.int (Int32.ofNat e)), some (.int (Int32.ofNat p))] [] h (xm_pv gv)) (soI1 A L F (whl (A (w + 1)) y) e) ?_ ?_ 0 _ (Nat.zero_le _) ⟨A, _, rfl, Ag.rf, fun q hq => absurd hq (by omega), Ag.up (Ag.up Ag.rf (by simp)) (by simp), fun k k7 k8 k9 => by rw [u_eq, u_ne k8, u_eq, u_ne k7], rfl, rfl⟩
  · rintro p h hp ⟨A', F', rfl, h1, h2, h3, h4, h5, h6⟩ ih
    refine xX4_shareOut_14 ?_
    rw [if_pos (show Int32.ofNat p < (8 : Int32) from (n_lt (q := 8) (by omega) (by omega)).mpr hp)]
    refine ⟨_, rfl, ?_⟩
    by_cases hb : e.testBit p = true
    · rw [if_pos ((n_bit e he p hp).mpr hb)]
      refine ⟨_, rfl, _, ln_10 hp, _, sn_11 hp, _, rfl, _, rfl, _, ln_11 hp, _, p_5_8, ?_⟩
      rw [n_succ, u_eq, p_eq]
      refine ih _ ⟨_, _, rfl, Ag.up h1 (by simp), ?_, Ag.up h3 (by simp), fun k k7 k8 k9 => ?_, ?_, ?_⟩
      · rw [u_eq]; exact fill h2 (by rw [asd, if_pos hb, h1 10 (by simp)])
      · rw [u_eq, u_ne k8]; exact h4 k k7 k8 k9
      · rw [u_eq, u_ne (by omega)]; exact h5
      · rw [u_eq, u_eq, h6]; show _ = sumN _ p + _; rw [asd, if_pos hb, h1 10 (by simp)]
    · rw [if_neg (fun q => hb ((n_bit e he p hp).mp q))]
      refine ⟨_, sn_11 hp, _, rfl, _, rfl, _, ln_11 hp, _, p_5_8, ?_⟩
      rw [n_succ, u_eq, p_eq]
      refine ih _ ⟨_, _, rfl, Ag.up h1 (by simp), ?_, Ag.up h3 (by simp), fun k k7 k8 k9 => ?_, ?_, ?_⟩
      · rw [u_eq]; exact fill h2 (by rw [asd, if_neg hb])
      · rw [u_eq, u_ne k8]; exact h4 k k7 k8 k9
      · rw [u_eq, u_ne (by omega)]; exact h5
      · rw [u_eq, u_eq, h6]; show _ = sumN _ p + _; rw [asd, if_neg hb]
  · rintro h ⟨A1, F1, rfl, a1, a2, a3, a4, a5, a6⟩
    refine xX4_shareOut_14 ?_
    rw [if_neg (by decide)]
    refine ⟨_, p_5_9, ?_⟩
    refine xm_for (n := 8) (Q := fun p h => xm_L 2 sX4_shareOut kX4_shareOut 50 [some (.ref 5), none, none, some (.int (Int32.ofNat p))] [] h (xm_pv gv)) (soI2 A L F (whl (A (w + 1)) y) e) ?_ ?_ 0 _ (Nat.zero_le _) ⟨A1, _, rfl, a1.mono (by simp), a2, fun q hq => absurd hq (by omega), Ag.up a3 (by simp), fun k k7 k8 k9 => by rw [u_eq, u_ne k9]; exact a4 k k7 k8 k9, by rw [u_eq, u_ne (by omega)]; exact a5, by rw [u_eq, u_ne (by omega)]; exact a6, by rw [u_eq, u_eq]; rfl⟩
    · rintro p h hp ⟨A', F', rfl, h1, h2, h3, h4, h5, h6, h7, h8⟩ ih
      refine xX4_shareOut_50 ?_
      rw [if_pos (show Int32.ofNat p < (8 : Int32) from (n_lt (q := 8) (by omega) (by omega)).mpr hp)]
      refine ⟨_, rfl, _, rfl, ?_⟩
      by_cases ht : F' 5 8 = 0
      · rw [if_pos ht]
        rw [h7] at ht
        refine ⟨_, sn_12 hp, _, rfl, _, rfl, _, ln_12 hp, _, p_5_9, ?_⟩
        rw [n_succ, u_eq, p_eq]
        refine ih _ ⟨_, _, rfl, Ag.up h1 (by simp), ?_, ?_, Ag.up h4 (by simp), fun k k7 k8 k9 => ?_, ?_, ?_, ?_⟩
        · rw [u_ne (by omega)]; exact h2
        · rw [u_eq]; exact fill h3 (by rw [shr, if_pos ht])
        · rw [u_eq, u_ne k9]; exact h5 k k7 k8 k9
        · rw [u_eq, u_ne (by omega)]; exact h6
        · rw [u_eq, u_ne (by omega)]; exact h7
        · rw [u_eq, u_eq, h8]; show _ = sumN _ p + _; rw [shr, if_pos ht]
      · rw [if_neg ht]
        have ht' := ht
        rw [h7] at ht'
        refine ⟨_, rfl, _, rfl, _, ln_11 hp, _, rfl, ht, _, sn_12 hp, _, rfl, _, rfl, _, ln_12 hp, _, p_5_9, ?_⟩
        rw [n_succ, u_eq, p_eq]
        refine ih _ ⟨_, _, rfl, Ag.up h1 (by simp), ?_, ?_, Ag.up h4 (by simp), fun k k7 k8 k9 => ?_, ?_, ?_, ?_⟩
        · rw [u_ne (by omega)]; exact h2
        · rw [u_eq]; exact fill h3 (by rw [shr, if_neg ht', h6, h7, h2 p hp])
        · rw [u_eq, u_ne k9]; exact h5 k k7 k8 k9
        · rw [u_eq, u_ne (by omega)]; exact h6
        · rw [u_eq, u_ne (by omega)]; exact h7
        · rw [u_eq, u_eq, h8]; show _ = sumN _ p + _; rw [shr, if_neg ht', h6, h7, h2 p hp]
    · rintro h ⟨A', F', rfl, h1, h2, h3, h4, h5, h6, h7, h8⟩
      refine xX4_shareOut_50 ?_
      rw [if_neg (by decide)]
      exact xm_pv_i (H A' F' h1 h2 h3 h4 h5 h6 h7 h8)
end RKD
