section MDF
variable {A : Nat → Nat → Int32} {L : Nat → Nat → Int64} {F : Nat → Nat → Int32} {g : Int32 → xm_H → Prop} {gv : xm_H → Prop} {w n p k j y e m K : Nat} {x v z : Int32} {h : xm_H} {tc : (Nat → Int32) → Int32} {c : Nat → Int32}
/-! ranges -/
def bd (x : Int32) (m : Int) : Prop := 0 ≤ x.toInt ∧ x.toInt ≤ m
theorem i_bm {z : Int} (h1 : -2147483648 ≤ z) (h2 : z < 2147483648) : z.bmod (2 ^ 32) = z := by
  rw [Int.bmod_def]; split <;> omega
theorem i_add {a b : Int32} (h1 : -2147483648 ≤ a.toInt + b.toInt) (h2 : a.toInt + b.toInt < 2147483648) : (a + b).toInt = a.toInt + b.toInt := by
  rw [Int32.toInt_add, i_bm h1 h2]
theorem i_sub {a b : Int32} (h1 : -2147483648 ≤ a.toInt - b.toInt) (h2 : a.toInt - b.toInt < 2147483648) : (a - b).toInt = a.toInt - b.toInt := by
  rw [Int32.toInt_sub, i_bm h1 h2]
theorem i_mul {a b : Int32} (h1 : -2147483648 ≤ a.toInt * b.toInt) (h2 : a.toInt * b.toInt < 2147483648) : (a * b).toInt = a.toInt * b.toInt := by
  rw [Int32.toInt_mul, i_bm h1 h2]
theorem i_neg {a : Int32} (h1 : -2147483648 < a.toInt) : (-a).toInt = -a.toInt := by
  have := Int32.toInt_lt a
  rw [Int32.toInt_neg, i_bm (by omega) (by omega)]
theorem i_div {a b : Int32} (ha : 0 ≤ a.toInt) (hb : 0 < b.toInt) : (a / b).toInt = a.toInt / b.toInt := by
  have h1 := Int32.toInt_lt a
  have h3 : 0 ≤ a.toInt / b.toInt := Int.ediv_nonneg ha (by omega)
  have h2 : a.toInt / b.toInt ≤ a.toInt := Int.ediv_le_self _ ha
  rw [Int32.toInt_div, Int.tdiv_eq_ediv_of_nonneg ha, i_bm (by omega) (by omega)]
theorem i_ssub (a s d : Int32) : (a - s) - d = a - (s + d) := by
  rw [Int32.sub_eq_add_neg, Int32.sub_eq_add_neg, Int32.sub_eq_add_neg, Int32.neg_add, Int32.sub_eq_add_neg, Int32.add_assoc]
theorem minI_alt (m x : Int32) : minI m x = if m < x then m else x := by
  unfold minI
  by_cases h1 : x < m
  · rw [if_pos h1]; rw [Int32.lt_iff_toInt_lt] at h1
    rw [if_neg (by rw [Int32.lt_iff_toInt_lt]; omega)]
  · rw [if_neg h1]
    by_cases h2 : m < x
    · rw [if_pos h2]
    · rw [if_neg h2]; rw [Int32.lt_iff_toInt_lt] at h1 h2; exact Int32.toInt_inj.mp (by omega)
/-- a world whose numbers are such as may be -/
def Rng (c : Nat → Int32) : Prop := (∀ p, p < 8 → bd (c (8 + p)) 9999 ∧ bd (c (16 + p)) 99 ∧ bd (c (48 + p)) 99) ∧ (∀ j, j < 8 → bd (c (56 + j)) 99) ∧ bd (c 65) 99
theorem clip_bd (x : Int32) : bd (clip x) 20 := by
  have t0 : (0 : Int32).toInt = 0 := rfl
  have t20 : (20 : Int32).toInt = 20 := rfl
  rw [clip_alt]
  by_cases h0 : x < 0
  · rw [if_pos h0]; exact ⟨by omega, by omega⟩
  · rw [if_neg h0]
    by_cases h1 : 20 < x
    · rw [if_pos h1]; exact ⟨by omega, by omega⟩
    · rw [if_neg h1]; rw [Int32.lt_iff_toInt_lt] at h0 h1; exact ⟨by omega, by omega⟩
theorem sAs_bd : bd (sAs tc c n y e p) 20 := by
  unfold sAs asd wgt
  have z0 : bd 0 20 := ⟨by decide, by decide⟩
  split
  · split
    · exact clip_bd _
    · exact z0
  · exact z0
theorem sumN_bd {f : Nat → Int32} {b : Nat} (h : ∀ q, bd (f q) b) : ∀ m : Nat, m * b < 2147483648 → bd (sumN f m) ((m * b : Nat) : Int)
  | 0, _ => ⟨by show (0 : Int) ≤ (0 : Int32).toInt; decide, by show (0 : Int32).toInt ≤ _; simp⟩
  | m + 1, hm => by
    have e1 : (m + 1) * b = m * b + b := Nat.succ_mul m b
    have ih := sumN_bd h m (by omega)
    have hq := h m
    unfold bd at ih hq ⊢
    show 0 ≤ (sumN f m + f m).toInt ∧ (sumN f m + f m).toInt ≤ _
    rw [i_add (by omega) (by omega)]
    omega
theorem sTot_bd : bd (sTot tc c n y e) 160 := sumN_bd (b := 20) (fun q => sAs_bd) 8 (by omega)
theorem bd_ne0 {m : Int} (h : bd x m) (h0 : ¬ x = 0) : 0 < x.toInt := by
  have : x.toInt ≠ (0 : Int32).toInt := fun q => h0 (Int32.toInt_inj.mp q)
  have t0 : (0 : Int32).toInt = 0 := rfl
  have := h.1
  omega
theorem whl_bd (hR : Rng c) : bd (whl c y) 9801 := by
  have h1 := hR.2.1 (y % 8) (Nat.mod_lt _ (by omega))
  have h2 := hR.2.2
  unfold whl
  unfold bd at *
  have h3 : 0 ≤ (c (56 + y % 8)).toInt * (c 65).toInt := Int.mul_nonneg h1.1 h2.1
  have h4 : (c (56 + y % 8)).toInt * (c 65).toInt ≤ 99 * 99 := Int.mul_le_mul h1.2 h2.2 h2.1 (by omega)
  rw [i_mul (by omega) (by omega)]
  omega
theorem sSh_bd (hR : Rng c) : bd (sSh tc c n y e p) 196020 := by
  unfold sSh shr
  by_cases h0 : sumN (asd e (wgt tc c n y)) 8 = 0
  · rw [if_pos h0]; exact ⟨by decide, by decide⟩
  · rw [if_neg h0]
    have h1 := whl_bd (y := y) hR
    have h2 : bd (asd e (wgt tc c n y) p) 20 := sAs_bd (tc := tc) (c := c) (n := n) (y := y) (e := e) (p := p)
    have h3 : bd (sumN (asd e (wgt tc c n y)) 8) 160 := sTot_bd (tc := tc) (c := c) (n := n) (y := y) (e := e)
    have h5 := bd_ne0 h3 h0
    unfold bd at *
    have h6 : 0 ≤ (whl c y).toInt * (asd e (wgt tc c n y) p).toInt := Int.mul_nonneg h1.1 h2.1
    have h7 : (whl c y).toInt * (asd e (wgt tc c n y) p).toInt ≤ 9801 * 20 := Int.mul_le_mul h1.2 h2.2 h2.1 (by omega)
    have h8 := i_mul (a := whl c y) (b := asd e (wgt tc c n y) p) (by omega) (by omega)
    rw [i_div (by omega) h5, h8]
    have h9 := Int.ediv_nonneg h6 (show 0 ≤ (sumN (asd e (wgt tc c n y)) 8).toInt by omega)
    have h10 := Int.ediv_le_self (sumN (asd e (wgt tc c n y)) 8).toInt h6
    omega
theorem leftS_bd (hR : Rng c) (hp : p < 8) {s : Int32} (hs : bd s 196020) : -200000 ≤ (leftS c y p s).toInt ∧ (leftS c y p s).toInt ≤ 9999 := by
  have h1 := (hR.1 p hp).1
  have h2 := hR.2.1 (y % 8) (Nat.mod_lt _ (by omega))
  have t0 : (0 : Int32).toInt = 0 := rfl
  have t2 : (2 : Int32).toInt = 2 := rfl
  unfold leftS
  unfold bd at *
  have e1 := i_sub (a := c (8 + p)) (b := s) (by omega) (by omega)
  split
  · rw [i_sub (by omega) (by omega)]; omega
  · have e2 := i_div (a := c (56 + y % 8)) (b := 2) h2.1 (by omega)
    rw [t2] at e2
    rw [i_sub (by omega) (by omega)]; omega
theorem max0_neg {l : Int32} (h : -2147483648 < l.toInt) : max0 (-l) = if l < 0 then -l else 0 := by
  have t0 : (0 : Int32).toInt = 0 := rfl
  have e := i_neg h
  unfold max0
  by_cases h0 : l < 0
  · rw [if_pos h0, if_pos]
    rw [Int32.lt_iff_toInt_lt] at h0 ⊢; omega
  · rw [if_neg h0, if_neg]
    rw [Int32.lt_iff_toInt_lt] at h0 ⊢; omega
theorem max0_alt (l : Int32) : max0 l = if l < 0 then 0 else l := by
  have t0 : (0 : Int32).toInt = 0 := rfl
  unfold max0
  by_cases h0 : l < 0
  · rw [if_pos h0, if_neg]
    rw [Int32.lt_iff_toInt_lt] at h0 ⊢; omega
  · rw [if_neg h0]
    by_cases h1 : 0 < l
    · rw [if_pos h1]
    · rw [if_neg h1]; rw [Int32.lt_iff_toInt_lt] at h0 h1; exact Int32.toInt_inj.mp (by omega)
theorem minI_bd {m : Int32} (hm : 0 ≤ m.toInt) (hx : 0 ≤ x.toInt) : bd (minI m x) m.toInt := by
  unfold minI
  by_cases h1 : x < m
  · rw [if_pos h1]; rw [Int32.lt_iff_toInt_lt] at h1; exact ⟨hx, by omega⟩
  · rw [if_neg h1]; exact ⟨hm, by omega⟩
theorem yrS_Rng (hR : Rng c) (hn : n ≤ 8) : Rng (yrS tc c n y) := by
  have key : ∀ k, (24 ≤ k ∧ k < 64) ∨ 64 < k → yrS tc c n y k = c k := fun k hk => by
    unfold yrS; rw [p_ne (by omega)]; exact yrC_at _ _ _ _ _ hn (by omega)
  have t0 : (0 : Int32).toInt = 0 := rfl
  have t1 : (1 : Int32).toInt = 1 := rfl
  refine ⟨fun p hp => ?_, fun j hj => by rw [key _ (by omega)]; exact hR.2.1 j hj, by rw [key _ (by omega)]; exact hR.2.2⟩
  obtain ⟨r1, r2, r3⟩ := hR.1 p hp
  rw [key (48 + p) (by omega)]
  by_cases hpn : p < n
  · have h1 := yrC_p c y (sSh tc c n y (earsOf c n)) n p hn hpn
    have e1 : yrS tc c n y (8 + p) = yrC c y (sSh tc c n y (earsOf c n)) n (8 + p) := by unfold yrS; rw [p_ne (by omega)]
    have e2 : yrS tc c n y (16 + p) = yrC c y (sSh tc c n y (earsOf c n)) n (16 + p) := by unfold yrS; rw [p_ne (by omega)]
    rw [e1, e2, h1.1, h1.2]
    have hl := leftS_bd (y := y) hR hp (sSh_bd (tc := tc) (n := n) (y := y) (e := earsOf c n) (p := p) hR)
    have hm : bd (max0 (leftS c y p (sSh tc c n y (earsOf c n) p))) 9999 := by
      rw [max0_alt]
      by_cases h0 : leftS c y p (sSh tc c n y (earsOf c n) p) < 0
      · rw [if_pos h0]; exact ⟨by decide, by decide⟩
      · rw [if_neg h0]; rw [Int32.lt_iff_toInt_lt] at h0; exact ⟨by omega, hl.2⟩
    unfold bd at hm r1 r2 r3
    refine ⟨minI_bd (m := 9999) (by decide) ?_, minI_bd (m := 99) (by decide) ?_, r3⟩
    · rw [i_add (by omega) (by omega)]; omega
    · rw [i_add (by omega) (by omega)]; omega
  · have e1 : yrS tc c n y (8 + p) = c (8 + p) := by unfold yrS; rw [p_ne (by omega)]; exact yrC_at _ _ _ _ _ hn (by omega)
    have e2 : yrS tc c n y (16 + p) = c (16 + p) := by unfold yrS; rw [p_ne (by omega)]; exact yrC_at _ _ _ _ _ hn (by omega)
    rw [e1, e2]; exact ⟨r1, r2, r3⟩
end MDF
