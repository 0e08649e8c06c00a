section MDD
variable {A : Nat → Nat → Int32} {L : Nat → Nat → Int64} {F : Nat → Nat → Int32} {g : Int32 → xm_H → Prop} {gv : xm_H → Prop} {w n p k j y e m K : Nat} {x v z : Int32} {h : xm_H} {tc : (Nat → Int32) → Int32} {c : Nat → Int32}
theorem i_01 {x : Int32} : ((if x < 0 then (0 : Int32) else if 1 < x then 0 else 1) = 0) ↔ ¬ (x = 0 ∨ x = 1) := by
  have t0 : (0 : Int32).toInt = 0 := rfl
  have t1 : (1 : Int32).toInt = 1 := rfl
  by_cases h0 : x < 0
  · rw [if_pos h0]
    refine ⟨fun _ q => ?_, fun _ => rfl⟩
    rcases q with rfl | rfl <;> exact absurd h0 (by decide)
  · rw [if_neg h0]
    by_cases h1 : 1 < x
    · rw [if_pos h1]
      refine ⟨fun _ q => ?_, fun _ => rfl⟩
      rcases q with rfl | rfl <;> exact absurd h1 (by decide)
    · rw [if_neg h1]
      refine ⟨fun q => absurd q (by decide), fun q => absurd ?_ q⟩
      rw [Int32.lt_iff_toInt_lt] at h0 h1
      rcases (show x.toInt = 0 ∨ x.toInt = 1 by omega) with h2 | h2
      · exact Or.inl (Int32.toInt_inj.mp (h2.trans t0.symm))
      · exact Or.inr (Int32.toInt_inj.mp (h2.trans t1.symm))
theorem m_has (hK : 0 < K) (he : e < 256) (hp : p < 8) (H : g (if e.testBit p = true then 1 else 0) h) : xm_Call K sX9_has 99 [.int (Int32.ofNat e), .int (Int32.ofNat p)] h (xm_pi g) := by
  refine eX9_has (K := 0) hK ?_
  by_cases hb : e.testBit p = true
  · rw [if_pos ((n_bit e he p hp).mpr hb)]; rw [if_pos hb] at H; exact xm_pi_i H
  · rw [if_neg (fun q => hb ((n_bit e he p hp).mp q))]; rw [if_neg hb] at H; exact xm_pi_i H
theorem n_evb : ∀ n, n ≤ 8 → ((1 : Int32) <<< (Int32.ofNat n &&& 31)) - 1 = Int32.ofNat (2 ^ n - 1) := by decide +kernel
theorem n_pow : ∀ n, n ≤ 8 → ((1 : Int32) <<< (Int32.ofNat n &&& 31)) = Int32.ofNat (2 ^ n) := by decide +kernel
theorem evb_lt (hn : n ≤ 8) : 2 ^ n - 1 < 256 := by
  have := Nat.pow_le_pow_right (n := 2) (by omega) hn
  omega
theorem m_everybody (hK : 0 < K) (hw : Mw A F n y c) (H : g (Int32.ofNat (2 ^ n - 1)) (HP A L F)) : xm_Call K sX9_everybody 9 [.ref 44] (HP A L F) (xm_pi g) := by
  refine eX9_everybody (K := 0) hK ⟨_, rfl⟩ ⟨_, rfl, xm_pi_i ?_⟩
  rw [hw.1.1, n_evb n hw.1.2.1]; exact H
theorem m_sharesOf (hK : 2 < K) (hw : Mw A F n y c) (hr : MsR tc c n y A F) (he : e < 256) (H : g (pSum e (sSh tc c n y (earsOf c n)) n) (HP A L F)) : xm_Call K sX9_sharesOf 9 [.ref 44, .int (Int32.ofNat e)] (HP A L F) (xm_pi g) := by
  have hn8 := hw.1.2.1
  refine eX9_sharesOf (K := 2) hK ⟨_, rfl⟩ ?_
  refine xm_for (n := n) (Q := fun p h => xm_L 2 sX9_sharesOf kX9_sharesOf 4 [some (.ref 44), some (.int (Int32.ofNat e)), some (.int (pSum e (sSh tc c n y (earsOf c n)) p)), some (.int (Int32.ofNat p))] [] h (xm_pi g)) (fun _ h => h = HP A L F) ?_ ?_ 0 _ (Nat.zero_le _) rfl
  · rintro p h hp rfl ih
    have hi := ih _ rfl
    refine xX9_sharesOf_4 ⟨_, rfl, ?_⟩
    rw [hw.1.1, if_pos ((n_lt (by omega) (by omega)).mpr hp)]
    have e1 : pSum e (sSh tc c n y (earsOf c n)) (p + 1) = if e.testBit p = true then pSum e (sSh tc c n y (earsOf c n)) p + sSh tc c n y (earsOf c n) p else pSum e (sSh tc c n y (earsOf c n)) p := rfl
    rw [e1] at hi
    refine m_has (by omega) he (by omega) ?_
    by_cases hb : e.testBit p = true
    · rw [if_pos hb] at hi ⊢
      rw [if_neg (by decide)]
      refine m_shareOf (tc := tc) (n := n) (y := y) (c := c) (by omega) hw hr hp ?_
      rw [n_succ]; exact hi
    · rw [if_neg hb] at hi ⊢
      rw [if_pos rfl, n_succ]; exact hi
  · rintro h rfl
    refine xX9_sharesOf_4 ⟨_, rfl, ?_⟩
    rw [hw.1.1, if_neg (fun q => absurd ((n_lt (by omega) (by omega)).mp q) (by omega))]
    exact xm_pi_i H
theorem sSh_out (hp : n ≤ p) : sSh tc c n y e p = 0 := by
  unfold sSh shr
  have : asd e (wgt tc c n y) p = 0 := sAs_out hp
  rw [this]
  split
  · rfl
  · rw [Int32.mul_zero, Int32.zero_div]
theorem sPaid_n (hn : n ≤ 8) : sPaid tc c n y e = sumN (sSh tc c n y e) n := sumN_cut 8 hn (fun q h1 _ => sSh_out h1)
theorem pSum_all {s : Nat → Int32} (m : Nat) : ∀ q, q ≤ m → pSum (2 ^ m - 1) s q = sumN s q
  | 0, _ => rfl
  | q + 1, h => by
    show (if (2 ^ m - 1).testBit q = true then pSum (2 ^ m - 1) s q + s q else pSum (2 ^ m - 1) s q) = sumN s q + s q
    rw [if_pos (by rw [Nat.testBit_two_pow_sub_one]; simp; omega), pSum_all m q (by omega)]
theorem r_bill (hK : 5 < K) (hM : ModOk A F tc n y c) (H0 : x = 0 → ∀ A' F', Mq A F A' F' n → g (whl c y) (HP A' L F')) (H1 : x = 1 → ∀ A' F', Mq A F A' F' n → g (whl c y - sPaid tc c n y (earsOf c n)) (HP A' L F')) (H2 : ¬ x = 0 → ¬ x = 1 → g (-1) (HP A L F)) : xm_Call K sX9_bill 9 [.ref 44, .int x] (HP A L F) (xm_pi g) := by
  have hn8 := hM.1.1.2.1
  refine eX9_bill (K := 5) hK ⟨_, rfl⟩ (m_in (by omega) ?_)
  by_cases hx : x = 0 ∨ x = 1
  · rw [if_neg (fun q => (i_01.mp q) hx)]
    refine m_layNow (by omega) hM.1 (fun A1 F1 q1 _ w1 => m_assess (tc := tc) (n := n) (y := y) (c := c) (by omega) w1 (q1.ok hM).2 (fun A2 F2 s2 r2 => ?_))
    have q2 := q1.tr (s2.mq q1.2.2.2)
    have w2 := s2.mw w1
    by_cases h0 : x = 0
    · rw [if_pos h0]; exact m_theBill (n := n) (y := y) (c := c) (by omega) w2 (xm_pi_i (H0 h0 A2 F2 q2))
    · rw [if_neg h0]
      refine m_theBill (n := n) (y := y) (c := c) (by omega) w2 (m_everybody (by omega) w2 (m_sharesOf (tc := tc) (n := n) (y := y) (c := c) (by omega) w2 r2 (evb_lt hn8) (xm_pi_i ?_)))
      rw [pSum_all n n (Nat.le_refl _), ← sPaid_n hn8]
      exact H1 (hx.resolve_left h0) A2 F2 q2
  · rw [if_pos (i_01.mpr hx)]
    exact xm_pi_i (H2 (fun q => hx (Or.inl q)) (fun q => hx (Or.inr q)))
theorem r_best (hK : 9 < K) (hM : ModOk A F tc n y c) {x2 : Int32} (H : ∀ p, p < n → x = Int32.ofNat p → ∀ A' F', Mq A F A' F' n → (x2 = 0 → g (Int32.ofNat (bst (wrtH tc c n y p) 3)) (HP A' L F')) ∧ (x2 = 1 → g (wrtH tc c n y p (bst (wrtH tc c n y p) 3)) (HP A' L F'))) (H2 : ((x < 0 ∨ ¬ x < Int32.ofNat n) ∨ (¬ x2 = 0 ∧ ¬ x2 = 1)) → g (-2000000000) (HP A L F)) : xm_Call K sX9_best 9 [.ref 44, .int x, .int x2] (HP A L F) (xm_pi g) := by
  refine eX9_best (K := 9) hK ⟨_, rfl⟩ (m_isOne (n := n) (by omega) hM.1.1.1 hM.1.1.2.1 (fun p hp he => ?_) (fun q => ?_))
  · rw [if_neg (by decide)]
    refine m_in (by omega) ?_
    by_cases hx : x2 = 0 ∨ x2 = 1
    · rw [if_neg (fun q => (i_01.mp q) hx)]
      subst he
      refine m_layNow (by omega) hM.1 (fun A1 F1 q1 _ w1 => m_bestHabit (tc := tc) (n := n) (y := y) (c := c) (by omega) w1 (q1.ok hM).2 hp (fun A2 F2 s2 => ?_))
      have q2 := q1.tr (s2.mq q1.2.2.2)
      by_cases h0 : x2 = 0
      · rw [if_pos h0]; exact xm_pi_i ((H p hp rfl A2 F2 q2).1 h0)
      · rw [if_neg h0]
        exact m_worthWith (tc := tc) (n := n) (y := y) (c := c) (by omega) (s2.mw w1) (q2.ok hM).2 hp (fun A3 F3 s3 => xm_pi_i ((H p hp rfl A3 F3 (q2.tr (s3.mq q2.2.2.2))).2 (hx.resolve_left h0)))
    · rw [if_pos (i_01.mpr hx)]
      exact xm_pi_i (H2 (Or.inr ⟨fun q => hx (Or.inl q), fun q => hx (Or.inr q)⟩))
  · rw [if_pos rfl]; exact xm_pi_i (H2 (Or.inl q))
theorem i_nlt_tr {a b c : Int32} (h1 : ¬ b < a) (h2 : ¬ c < b) : ¬ c < a := by
  rw [Int32.lt_iff_toInt_lt] at *; omega
theorem bst_max (W : Nat → Int32) : ∀ m q, q ≤ m → ¬ W (bst W m) < W q
  | 0, q, h => by
    have : q = 0 := by omega
    subst this
    rw [Int32.lt_iff_toInt_lt]
    show ¬ (W 0).toInt < (W 0).toInt
    omega
  | m + 1, q, h => by
    show ¬ W (if W (bst W m) < W (m + 1) then m + 1 else bst W m) < W q
    by_cases hc : W (bst W m) < W (m + 1)
    · rw [if_pos hc]
      by_cases hq : q = m + 1
      · subst hq; rw [Int32.lt_iff_toInt_lt]; omega
      · have ih := bst_max W m q (by omega)
        rw [Int32.lt_iff_toInt_lt] at *; omega
    · rw [if_neg hc]
      by_cases hq : q = m + 1
      · subst hq; exact hc
      · exact bst_max W m q (by omega)
theorem m_areAtRest (hK : 9 < K) (hw : Mw A F n y c) (ht : TXm A F tc) (H1 : rstS tc c n y → ∀ A' F', Ms A F A' F' → g 1 (HP A' L F')) (H0 : ¬ rstS tc c n y → ∀ A' F', Ms A F A' F' → g 0 (HP A' L F')) : xm_Call K sX9_areAtRest 9 [.ref 44] (HP A L F) (xm_pi g) := by
  have hn8 := hw.1.2.1
  refine eX9_areAtRest (K := 9) hK ⟨_, rfl⟩ ?_
  refine xm_for (n := n) (Q := fun p h => xm_L 9 sX9_areAtRest kX9_areAtRest 2 [some (.ref 44), some (.int (Int32.ofNat p))] [] h (xm_pi g)) (fun p h => ∃ A' F', h = HP A' L F' ∧ Ms A F A' F' ∧ ∀ r, r < p → ∀ q, q < 4 → ¬ wrt tc c n y r < wrtH tc c n y r q) ?_ ?_ 0 _ (Nat.zero_le _) ⟨A, F, rfl, Ms.rf, fun r hr => absurd hr (by omega)⟩
  · rintro p h hp ⟨A1, F1, rfl, s1, h1⟩ ih
    refine xX9_areAtRest_2 ⟨_, rfl, ?_⟩
    rw [(s1.mw hw).1.1, if_pos ((n_lt (by omega) (by omega)).mpr hp)]
    have tt : ∀ {B G}, Ms A F B G → TXm B G tc := fun s => ht.to s.1 (by simp) (s.2.2 30 (by omega))
    refine m_bestHabit (tc := tc) (n := n) (y := y) (c := c) (by omega) (s1.mw hw) (tt s1) hp (fun A2 F2 s2 => ?_)
    have s12 := s1.tr s2
    refine m_worthWith (tc := tc) (n := n) (y := y) (c := c) (by omega) (s12.mw hw) (tt s12) hp (fun A3 F3 s3 => ?_)
    have s13 := s12.tr s3
    refine m_worthBy (tc := tc) (n := n) (y := y) (c := c) (by omega) (s13.mw hw) (tt s13) hp (fun A4 F4 s4 => ?_)
    have s14 := s13.tr s4
    show (if wrt tc c n y p < wrtH tc c n y p (bst (wrtH tc c n y p) 3) then _ else _)
    by_cases hc : wrt tc c n y p < wrtH tc c n y p (bst (wrtH tc c n y p) 3)
    · rw [if_pos hc]
      exact xm_pi_i (H0 (fun hr => hr p hp _ (Nat.lt_succ_of_le (bst_le _ 3)) hc) A4 F4 s14)
    · rw [if_neg hc, n_succ]
      refine ih _ ⟨A4, F4, rfl, s14, fun r hr q hq => ?_⟩
      by_cases hrp : r = p
      · subst hrp; exact i_nlt_tr (bst_max _ 3 q (by omega)) hc
      · exact h1 r (by omega) q hq
  · rintro h ⟨A1, F1, rfl, s1, h1⟩
    refine xX9_areAtRest_2 ⟨_, rfl, ?_⟩
    rw [(s1.mw hw).1.1, if_neg (fun q => absurd ((n_lt (by omega) (by omega)).mp q) (by omega))]
    exact xm_pi_i (H1 h1 A1 F1 s1)
theorem r_atRest (hK : 10 < K) (hM : ModOk A F tc n y c) (H1 : rstS tc c n y → ∀ A' F', Mq A F A' F' n → g 1 (HP A' L F')) (H0 : ¬ rstS tc c n y → ∀ A' F', Mq A F A' F' n → g 0 (HP A' L F')) : xm_Call K sX9_atRest 9 [.ref 44] (HP A L F) (xm_pi g) := by
  refine eX9_atRest (K := 10) hK ⟨_, rfl⟩ (m_layNow (by omega) hM.1 (fun A1 F1 q1 _ w1 => m_areAtRest (tc := tc) (n := n) (y := y) (c := c) (by omega) w1 (q1.ok hM).2 (fun hr A2 F2 s2 => ?_) (fun hr A2 F2 s2 => ?_)))
  · rw [if_neg (by decide)]; exact xm_pi_i (H1 hr A2 F2 (q1.tr (s2.mq q1.2.2.2)))
  · rw [if_pos rfl]; exact xm_pi_i (H0 hr A2 F2 (q1.tr (s2.mq q1.2.2.2)))
end MDD
