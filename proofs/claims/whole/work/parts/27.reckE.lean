section RKE
variable {A : Nat → Nat → Int32} {L : Nat → Nat → Int64} {F : Nat → Nat → Int32} {g : Int32 → xm_H → Prop} {gv : xm_H → Prop} {w n p k j y e K : Nat} {x v z : Int32} {h : xm_H} {tc : (Nat → Int32) → Int32}
/-- a world that can be reckoned: n people, the year y, everybody heard or not -/
def WOk (A : Nat → Nat → Int32) (F : Nat → Nat → Int32) (w n y : Nat) : Prop := isW w ∧ F w 1 = Int32.ofNat n ∧ n ≤ 8 ∧ y < 200 ∧ A (w + 1) 64 = Int32.ofNat y ∧ ∀ p, p < n → A (w + 1) (40 + p) = 0 ∨ A (w + 1) (40 + p) = 1
theorem WOk.to {A' : Nat → Nat → Int32} {F' : Nat → Nat → Int32} {S T : List Nat} (h : WOk A F w n y) (hA : Ag S A A') (hF : Ag T F F') (hS : 2 ∉ S ∧ 4 ∉ S ∧ 22 ∉ S) (hT : 1 ∉ T ∧ 3 ∉ T ∧ 21 ∉ T) : WOk A' F' w n y := by
  obtain ⟨hw, hn, h8, hy, he, hh⟩ := h
  have h1 := w_in hw hA hS
  have h2 : F' w = F w := hF w (by rcases hw with rfl | rfl | rfl <;> simp [hT])
  exact ⟨hw, by rw [h2]; exact hn, h8, hy, by rw [h1]; exact he, by rw [h1]; exact hh⟩
/-! the shares of a world with cells c, n people, in the year y, if those of the set e are heard -/
def sAs (tc : (Nat → Int32) → Int32) (c : Nat → Int32) (n y e p : Nat) : Int32 := asd e (wgt tc c n y) p
def sTot (tc : (Nat → Int32) → Int32) (c : Nat → Int32) (n y e : Nat) : Int32 := sumN (sAs tc c n y e) 8
def sSh (tc : (Nat → Int32) → Int32) (c : Nat → Int32) (n y e p : Nat) : Int32 := shr e (wgt tc c n y) (whl c y) p
def sPaid (tc : (Nat → Int32) → Int32) (c : Nat → Int32) (n y e : Nat) : Int32 := sumN (sSh tc c n y e) 8
def earsOf (c : Nat → Int32) (n : Nat) : Nat := bitsN (hrd c) n
theorem earsOf_lt (c : Nat → Int32) {n : Nat} (h : n ≤ 8) : earsOf c n < 256 := Nat.lt_of_lt_of_le (bitsN_lt _ n) (Nat.le_trans (Nat.pow_le_pow_right (by omega) h) (by decide))
/-- what the reckoner holds behind a reckoning -/
def RkR (tc : (Nat → Int32) → Int32) (c : Nat → Int32) (n y e : Nat) (A' F' : Nat → Nat → Int32) : Prop := (∀ q, q < 8 → A' 10 q = wgt tc c n y q) ∧ (∀ q, q < 8 → A' 11 q = sAs tc c n y e q) ∧ (∀ q, q < 8 → A' 12 q = sSh tc c n y e q) ∧ F' 5 7 = whl c y ∧ F' 5 8 = sTot tc c n y e ∧ F' 5 9 = sPaid tc c n y e
theorem asd_eq {f s : Nat → Int32} (h : ∀ q, q < 8 → f q = s q) : ∀ q, q < 8 → asd e f q = asd e s q := fun q hq => by unfold asd; rw [h q hq]
theorem shr_eq {f s : Nat → Int32} (h : ∀ q, q < 8 → f q = s q) : ∀ q, q < 8 → shr e f x q = shr e s x q := fun q hq => by
  unfold shr
  rw [sumN_eq 8 (asd_eq h), asd_eq h q hq]
/-- behind weigh(w): the shares, if those of e are heard -/
theorem c_shareOut2 (hK : 2 < K) (hw : WOk A F w n y) (he : e < 256) (hwt : ∀ q, q < 8 → A 10 q = wgt tc (A (w + 1)) n y q) (H : ∀ A' F', Ag [11, 12] A A' → Ag [5] F F' → F' 5 10 = F 5 10 → RkR tc (A (w + 1)) n y e A' F' → gv (HP A' L F')) : xm_Call K sX4_shareOut 4 [.ref 5, .ref w, .int (Int32.ofNat e)] (HP A L F) (xm_pv gv) := by
  obtain ⟨hw, hn, h8, hy, hey, hh⟩ := hw
  refine c_shareOut (y := y) hK hw hy hey he (fun A' F' h1 h2 h3 h4 h5 h6 h7 h9 => H A' F' h1 h4 (h5 10 (by omega) (by omega) (by omega)) ⟨fun q hq => ?_, fun q hq => ?_, fun q hq => ?_, h6, ?_, ?_⟩)
  · rw [h1 10 (by simp)]; exact hwt q hq
  · rw [h2 q hq]; exact asd_eq hwt q hq
  · rw [h3 q hq]; exact shr_eq hwt q hq
  · rw [h7]; exact sumN_eq 8 (asd_eq hwt)
  · rw [h9]; exact sumN_eq 8 (shr_eq hwt)
theorem c_reckon (hK : 6 < K) (hw : WOk A F w n y) (ht : TXok A F tc) (H : ∀ A' F', Ag [8, 9, 10, 11, 12] A A' → Ag [5] F F' → F' 5 10 = F 5 10 → RkR tc (A (w + 1)) n y (earsOf (A (w + 1)) n) A' F' → gv (HP A' L F')) : xm_Call K sX4_reckon 4 [.ref 5, .ref w] (HP A L F) (xm_pv gv) := by
  refine eX4_reckon (K := 6) hK ⟨_, rfl⟩ (c_weigh (by omega) hw.1 hw.2.1 hw.2.2.1 hw.2.2.2.1 hw.2.2.2.2.1 ht (fun A1 F1 a1 a2 a3 a4 => ?_))
  have hw1 : WOk A1 F1 w n y := hw.to a1 a3 (by simp) (by simp)
  have hAw := w_in hw.1 a1 (by simp)
  refine c_ears (by omega) hw1.1 hw1.2.1 hw1.2.2.1 hw1.2.2.2.2.2 ?_
  refine c_shareOut2 (tc := tc) (e := earsOf (A1 (w + 1)) n) (by omega) hw1 (earsOf_lt _ hw1.2.2.1) (by rw [hAw]; exact a2) (fun A2 F2 b1 b2 b3 b4 => xm_pv_i (H A2 F2 (Ag.tr (a1.mono (by simp)) (b1.mono (by simp))) (Ag.tr a3 b2) (b3.trans (a4 10 (by omega) (by omega))) ?_))
  rw [hAw] at b4
  exact b4
theorem c_shareOf (hK : 0 < K) (hp : p < 8) (H : g (A 12 p) (HP A L F)) : xm_Call K sX4_shareOf 4 [.ref 5, .int (Int32.ofNat p)] (HP A L F) (xm_pi g) := by
  refine eX4_shareOf (K := 0) hK ⟨_, rfl⟩ ?_
  rw [if_neg (xs_nn (by omega)), if_pos (show Int32.ofNat p < (8 : Int32) from (n_lt (q := 8) (by omega) (by omega)).mpr hp)]
  exact ⟨_, rfl, _, ln_12 hp, xm_pi_i H⟩
/-- what the habit x is worth to p, without his share -/
def gainS (c : Nat → Int32) (y p : Nat) (x : Int32) : Int32 :=
  if x = 1 ∨ x = 2 then (if x < 2 then 0 else 10 * c p - c (56 + y % 8) / 2) + c 66 else (if x < 2 then 0 else 10 * c p - c (56 + y % 8) / 2)
theorem c_gainOf (hK : 2 < K) (hw : WOk A F w n y) (hp : p < n) (H : g (gainS (A (w + 1)) y p x) (HP A L F)) : xm_Call K sX4_gainOf 4 [.ref 5, .ref w, .int (Int32.ofNat p), .int x] (HP A L F) (xm_pi g) := by
  obtain ⟨hw, hn, h8, hy, hey, hh⟩ := hw
  refine eX4_gainOf (K := 2) hK ⟨_, rfl⟩ (c_isGone (by omega) ?_)
  unfold gainS at H
  by_cases h2 : x < 2
  · rw [if_pos h2, if_pos rfl]
    refine c_isSaid (by omega) ?_
    simp only [if_pos h2] at H
    by_cases hs : x = 1 ∨ x = 2
    · rw [if_pos hs, if_neg (by decide)]
      rw [if_pos hs] at H
      exact c_get_b (k := 10) (by omega) hw (by omega) (by omega) (xm_pi_i H)
    · rw [if_neg hs, if_pos rfl]
      rw [if_neg hs] at H
      exact xm_pi_i H
  · rw [if_neg h2, if_neg (by decide)]
    simp only [if_neg h2] at H
    refine c_get (k := 0) (by omega) hw hn h8 hp (by omega) (c_snow (y := y) (by omega) hw hy hey ⟨by decide, c_isSaid (by omega) ?_⟩)
    rw [show 8 * 0 + p = p by omega]
    by_cases hs : x = 1 ∨ x = 2
    · rw [if_pos hs, if_neg (by decide)]
      rw [if_pos hs] at H
      exact c_get_b (k := 10) (by omega) hw (by omega) (by omega) (xm_pi_i H)
    · rw [if_neg hs, if_pos rfl]
      rw [if_neg hs] at H
      exact xm_pi_i H
theorem c_worthOf (hK : 3 < K) (hw : WOk A F w n y) (hp : p < n) (H : g (gainS (A (w + 1)) y p (A (w + 1) (24 + p)) - A 12 p) (HP A L F)) : xm_Call K sX4_worthOf 4 [.ref 5, .ref w, .int (Int32.ofNat p)] (HP A L F) (xm_pi g) :=
  eX4_worthOf (K := 3) hK ⟨_, rfl⟩ (c_get (k := 3) (by omega) hw.1 hw.2.1 hw.2.2.1 hp (by omega) (c_gainOf (n := n) (y := y) (by omega) hw hp (c_shareOf (by omega) (by have := hw.2.2.1; omega) (xm_pi_i H))))
/-! a year's end -/
def leftS (c : Nat → Int32) (y p : Nat) (s : Int32) : Int32 := if c (24 + p) < 2 then (c (8 + p) - s) - 0 else (c (8 + p) - s) - c (56 + y % 8) / 2
def max0 (x : Int32) : Int32 := if 0 < x then x else 0
def minI (m x : Int32) : Int32 := if x < m then x else m
/-- the cells behind the first m of the n people, if s are the shares -/
def yrC (c : Nat → Int32) (y : Nat) (s : Nat → Int32) : Nat → Nat → Int32
  | 0 => c
  | m + 1 => upd (upd (yrC c y s m) (8 + m) (minI 9999 (max0 (leftS c y m (s m)) + c (48 + m)))) (16 + m) (minI 99 (c (16 + m) + 1))
def lackS (c : Nat → Int32) (y : Nat) (s : Nat → Int32) : Nat → Int32
  | 0 => 0
  | m + 1 => lackS c y s m + max0 (-(leftS c y m (s m)))
/-- the cells a year later -/
def yrS (tc : (Nat → Int32) → Int32) (c : Nat → Int32) (n y : Nat) : Nat → Int32 := upd (yrC c y (sSh tc c n y (earsOf c n)) n) 64 (minI 199 (Int32.ofNat y + 1))
theorem yrC_at (c : Nat → Int32) (y : Nat) (s : Nat → Int32) : ∀ (m k : Nat), m ≤ 8 → (k < 8 + 0 ∨ (8 + m ≤ k ∧ k < 16) ∨ (16 + m ≤ k)) → yrC c y s m k = c k
  | 0, k, _, _ => rfl
  | m + 1, k, hm, hk => by
    show upd (upd (yrC c y s m) (8 + m) _) (16 + m) _ k = c k
    rw [p_ne (by omega), p_ne (by omega)]
    exact yrC_at c y s m k (by omega) (by omega)
theorem yrC_p (c : Nat → Int32) (y : Nat) (s : Nat → Int32) : ∀ (m q : Nat), m ≤ 8 → q < m → yrC c y s m (8 + q) = minI 9999 (max0 (leftS c y q (s q)) + c (48 + q)) ∧ yrC c y s m (16 + q) = minI 99 (c (16 + q) + 1)
  | 0, q, _, hq => absurd hq (by omega)
  | m + 1, q, hm, hq => by
    show upd (upd (yrC c y s m) (8 + m) _) (16 + m) _ (8 + q) = _ ∧ upd (upd (yrC c y s m) (8 + m) _) (16 + m) _ (16 + q) = _
    by_cases he : q = m
    · subst he
      exact ⟨by rw [p_ne (by omega), p_eq], by rw [p_eq]⟩
    · have ih := yrC_p c y s m q (by omega) (by omega)
      exact ⟨by rw [p_ne (by omega), p_ne (by omega)]; exact ih.1, by rw [p_ne (by omega), p_ne (by omega)]; exact ih.2⟩
end RKE
