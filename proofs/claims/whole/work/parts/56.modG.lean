section MDG
variable {A : Nat → Nat → Int32} {L : Nat → Nat → Int64} {F : Nat → Nat → Int32} {g : Int32 → xm_H → Prop} {gv : xm_H → Prop} {w n p k j y e m K : Nat} {x v z : Int32} {h : xm_H} {tc : (Nat → Int32) → Int32} {c : Nat → Int32}
theorem m_leaves0 (hK : 0 < K) (e : A 66 p = c (24 + p)) (hp : p < 8) (H : g (if c (24 + p) < 2 then 0 else 1) (HP A L F)) : xm_Call K sX9_leaves 9 [.ref 44, .int (Int32.ofNat p)] (HP A L F) (xm_pi g) := by
  refine eX9_leaves (K := 0) hK ⟨_, rfl⟩ ⟨_, rfl, _, ln_66 hp, ?_⟩
  rw [e]
  split
  · next hc => rw [if_pos hc] at H; exact xm_pi_i H
  · next hc => rw [if_neg hc] at H; exact xm_pi_i H
theorem m_shareOf0 (hK : 1 < K) (hn8 : n ≤ 8) (h36 : F 44 36 = c (56 + y % 8)) (h38 : F 44 38 = c 65) (hr : MsR tc c n y A F) (hp : p < n) (H : g (sSh tc c n y (earsOf c n) p) (HP A L F)) : xm_Call K sX9_shareOf 9 [.ref 44, .int (Int32.ofNat p)] (HP A L F) (xm_pi g) := by
  have e1 : F 44 39 = sumN (asd (earsOf c n) (wgt tc c n y)) 8 := hr.2
  refine eX9_shareOf (K := 1) hK ⟨_, rfl⟩ ⟨_, rfl, ?_⟩
  rw [e1]
  unfold sSh shr at H
  by_cases h0 : sumN (asd (earsOf c n) (wgt tc c n y)) 8 = 0
  · rw [if_pos h0] at H ⊢; exact xm_pi_i H
  · rw [if_neg h0] at H ⊢
    refine eX9_theBill (K := 0) (by omega) ⟨_, rfl⟩ ⟨_, rfl, _, rfl, xm_pi_i ⟨_, rfl, _, ln_70 (by omega), _, rfl, ?_⟩⟩
    rw [e1, h36, h38]
    refine ⟨h0, xm_pi_i ?_⟩
    rw [hr.1 p hp]; exact H
/-- another world of which the reference holds the same -/
theorem mw_ext (hw : Mw A F n y c) {d : Nat → Int32} (h1 : ∀ k, k < 67 → ¬ (56 ≤ k ∧ k < 64) → d k = c k) (h2 : d (56 + y % 8) = v) : Mw A (va_up F 44 (va_up (F 44) 36 v)) n y d := by
  obtain ⟨⟨a1, a2, a3, a4, a5, a6, a7⟩, a8, a9⟩ := hw
  refine ⟨⟨a1, a2, a3, a4, by rw [h1 65 (by omega) (by omega)]; exact a5, by rw [h2]; rfl, by rw [h1 66 (by omega) (by omega)]; exact a7⟩, fun q hq => ?_, fun q hq => by rw [h1 _ (by omega) (by omega)]; exact a9 q hq⟩
  rw [h1 q (by omega) (by omega), h1 (8 + q) (by omega) (by omega), h1 (16 + q) (by omega) (by omega), h1 (24 + q) (by omega) (by omega), h1 (32 + q) (by omega) (by omega), h1 (40 + q) (by omega) (by omega), h1 (48 + q) (by omega) (by omega)]
  exact a8 q hq
/-- a year's loops: purses of the first p, ages of the first r -/
def gyI (tc : (Nat → Int32) → Int32) (A F : Nat → Nat → Int32) (L : Nat → Nat → Int64) (c : Nat → Int32) (n y p r : Nat) (h : xm_H) : Prop := ∃ A' F', h = HP A' L F' ∧ Ag [64, 65, 68, 69, 70] A A' ∧ Ag [44] F F' ∧ (∀ k, k ≠ 39 → k ≠ 42 → k ≠ 43 → F' 44 k = F 44 k) ∧ MsR tc c n y A' F' ∧ (∀ q, A' 68 q = if q < p then minI 9999 (max0 (leftS c y q (sSh tc c n y (earsOf c n) q)) + c (48 + q)) else A 68 q) ∧ (∀ q, A' 69 q = if q < r then minI 99 (c (16 + q) + 1) else A 69 q) ∧ F' 44 42 = F 44 42 + sumN (sSh tc c n y (earsOf c n)) p ∧ F' 44 43 = F 44 43 + lackS c y (sSh tc c n y (earsOf c n)) p
theorem gy_upd {f a : Nat → Int32} {t : Nat → Int32} (h : ∀ q, f q = if q < p then t q else a q) (hv : v = t p) : ∀ q, upd f p v q = if q < p + 1 then t q else a q := fun q => by
  by_cases hq : q = p
  · subst hq; rw [p_eq, if_pos (by omega)]; exact hv
  · rw [p_ne hq, h q]
    by_cases h2 : q < p
    · rw [if_pos h2, if_pos (by omega)]
    · rw [if_neg h2, if_neg (by omega)]
set_option maxHeartbeats 1000000 in
theorem m_goYear (hK : 5 < K) (hw : Mw A F n y c) (ht : TXm A F tc) (hz : Mz A n) (hR : Rng c)
    (H : ∀ A' F', Mq A F A' F' n → (∀ k, ¬ (k = 36 ∨ k = 37 ∨ k = 39 ∨ k = 42 ∨ k = 43) → F' 44 k = F 44 k) → (∀ d : Nat → Int32, (∀ k, k < 67 → ¬ (56 ≤ k ∧ k < 64) → d k = yrS tc c n y k) → d (56 + min 199 (y + 1) % 8) = A 52 (min 199 (y + 1) % 8) → Mw A' F' n (min 199 (y + 1)) d) → F' 44 42 = F 44 42 + sPaid tc c n y (earsOf c n) → F' 44 43 = F 44 43 + lackS c y (sSh tc c n y (earsOf c n)) n → gv (HP A' L F')) : xm_Call K sX9_goYear 9 [.ref 44] (HP A L F) (xm_pv gv) := by
  have hn8 := hw.1.2.1
  have t0 : (0 : Int32).toInt = 0 := rfl
  refine eX9_goYear (K := 5) hK ⟨_, rfl⟩ (m_assess (tc := tc) (n := n) (y := y) (c := c) (by omega) hw ht (fun B G s1 r1 => ?_))
  refine xm_for (n := n) (Q := fun p h => xm_L 5 sX9_goYear kX9_goYear 4 [some (.ref 44), some (.int (Int32.ofNat p)), none, none] [] h (xm_pv gv)) (fun p h => gyI tc A F L c n y p 0 h) ?_ ?_ 0 _ (Nat.zero_le _) ⟨B, G, rfl, s1.1.mono (fun k hk => by simp at hk ⊢; omega), s1.2.1, fun k h1 _ _ => s1.2.2 k h1, r1, fun q => ?_, fun q => ?_, ?_, ?_⟩
  · rintro p h hp ⟨A', F', rfl, h1, h2, h3, h4, h5, h6, h7, h8⟩ ih
    obtain ⟨b0, b1, b2, b3, b4, b5, b6⟩ := hw.2.1 p (by omega)
    have e36 : F' 44 36 = c (56 + y % 8) := by rw [h3 36 (by omega) (by omega) (by omega)]; exact hw.1.2.2.2.2.2.1
    have e38 : F' 44 38 = c 65 := by rw [h3 38 (by omega) (by omega) (by omega)]; exact hw.1.2.2.2.2.1
    have e66 : A' 66 p = c (24 + p) := by rw [h1 66 (by simp)]; exact b3
    have e51 : A' 51 p = c (48 + p) := by rw [h1 51 (by simp)]; exact b6
    have e68 : A' 68 p = c (8 + p) := by rw [h5 p, if_neg (by omega)]; exact b1
    have hs := sSh_bd (tc := tc) (n := n) (y := y) (e := earsOf c n) (p := p) hR
    have hl := leftS_bd (y := y) hR (show p < 8 by omega) hs
    have step : ∀ (v : Int32) (G : Nat → Nat → Int32), v = minI 9999 (max0 (leftS c y p (sSh tc c n y (earsOf c n) p)) + c (48 + p)) → Ag [44] F' G → (∀ k, k ≠ 42 → k ≠ 43 → G 44 k = F' 44 k) → G 44 42 = F' 44 42 + sSh tc c n y (earsOf c n) p → G 44 43 = F' 44 43 + max0 (-(leftS c y p (sSh tc c n y (earsOf c n) p))) → xm_L 5 sX9_goYear kX9_goYear 4 [some (.ref 44), some (.int (Int32.ofNat p + 1)), none, none] [] (HP (va_up A' 68 (upd (A' 68) p v)) L G) (xm_pv gv) := by
      intro v G hv g1 g2 g3 g4
      rw [n_succ]
      refine ih _ ⟨_, _, rfl, Ag.up h1 (by simp), Ag.tr h2 g1, fun k k1 k2 k3 => (g2 k k2 k3).trans (h3 k k1 k2 k3), ⟨by rw [u_ne (by omega)]; exact h4.1, by rw [g2 39 (by omega) (by omega)]; exact h4.2⟩, ?_, by rw [u_ne (by omega)]; exact h6, ?_, ?_⟩
      · rw [u_eq]
        exact gy_upd (t := fun q => minI 9999 (max0 (leftS c y q (sSh tc c n y (earsOf c n) q)) + c (48 + q))) h5 hv
      · rw [g3, h7, Int32.add_assoc]; rfl
      · rw [g4, h8, Int32.add_assoc]; rfl
    have two : ∀ (v : Int32) (G : Nat → Nat → Int32), v = max0 (leftS c y p (sSh tc c n y (earsOf c n) p)) + c (48 + p) → Ag [44] F' G → (∀ k, k ≠ 42 → k ≠ 43 → G 44 k = F' 44 k) → G 44 42 = F' 44 42 + sSh tc c n y (earsOf c n) p → G 44 43 = F' 44 43 + max0 (-(leftS c y p (sSh tc c n y (earsOf c n) p))) → (if (9999 : Int32) < v then
                    ∃ h17, xm_sto (HP A' L G) 0 68 (Int32.ofNat p) (9999 : Int32) = some h17 ∧
                    xm_L 5 sX9_goYear kX9_goYear 4 [some (.ref 44), some (.int (Int32.ofNat p + (1 : Int32))), none, none] [] h17 (xm_pv gv)
                  else
                    ∃ h18, xm_sto (HP A' L G) 0 68 (Int32.ofNat p) v = some h18 ∧
                    xm_L 5 sX9_goYear kX9_goYear 4 [some (.ref 44), some (.int (Int32.ofNat p + (1 : Int32))), none, none] [] h18 (xm_pv gv)) := by
      intro v G hv g1 g2 g3 g4
      split
      · next hc => exact ⟨_, sn_68 (by omega), step _ _ (by rw [minI_alt, ← hv, if_pos hc]) g1 g2 g3 g4⟩
      · next hc => exact ⟨_, sn_68 (by omega), step _ _ (by rw [minI_alt, ← hv, if_neg hc]) g1 g2 g3 g4⟩
    refine xX9_goYear_4 ⟨_, rfl, ?_⟩
    rw [h3 1 (by omega) (by omega) (by omega), hw.1.1, if_pos ((n_lt (by omega) (by omega)).mpr hp)]
    refine m_shareOf0 (tc := tc) (c := c) (y := y) (by omega) hn8 e36 e38 h4 hp (m_leaves0 (c := c) (by omega) e66 (by omega) ?_)
    by_cases hg : c (24 + p) < 2
    rw [if_pos hg, if_pos rfl]
    refine ⟨_, rfl, _, ln_68 (by omega), _, rfl, m_shareOf0 (tc := tc) (c := c) (y := y) (by omega) hn8 e36 e38 h4 hp ⟨_, p_44_42, ?_⟩⟩
    have hlf : A' 68 p - (sSh tc c n y (earsOf c n) p + 0) = leftS c y p (sSh tc c n y (earsOf c n) p) := by rw [leftS, if_pos hg, i_ssub, e68]
    rotate_left
    rw [if_neg hg, if_neg (by decide)]
    refine ⟨_, rfl, by decide, _, rfl, _, ln_68 (by omega), _, rfl, m_shareOf0 (tc := tc) (c := c) (y := y) (by omega) hn8 e36 e38 h4 hp ⟨_, p_44_42, ?_⟩⟩
    have hlf : A' 68 p - (sSh tc c n y (earsOf c n) p + F' 44 36 / 2) = leftS c y p (sSh tc c n y (earsOf c n) p) := by rw [leftS, if_neg hg, i_ssub, e68, e36]
    all_goals
      rw [hlf]
      by_cases h0 : leftS c y p (sSh tc c n y (earsOf c n) p) < 0
      · rw [if_pos h0]
        refine ⟨_, rfl, _, p_44_43, ?_⟩
        rw [if_pos h0]
        refine ⟨_, rfl, _, ln_51 (by omega), _, rfl, ?_⟩
        refine two _ _ (by rw [max0_alt, if_pos h0, e51]) (Ag.up (Ag.up Ag.rf (by simp)) (by simp)) (fun k k1 k2 => by rw [u_eq, u_ne k2, u_eq, u_ne k1]) rfl ?_
        rw [max0_neg (by omega), if_pos h0, ← Int32.sub_eq_add_neg]
        rfl
      · rw [if_neg h0, if_neg h0]
        refine ⟨_, rfl, _, ln_51 (by omega), _, rfl, ?_⟩
        refine two _ _ (by rw [max0_alt, if_neg h0, e51]) (Ag.up Ag.rf (by simp)) (fun k k1 k2 => by rw [u_eq, u_ne k1]) rfl ?_
        rw [max0_neg (by omega), if_neg h0, Int32.add_zero]
        rfl
  · rintro h ⟨A', F', rfl, h1, h2, h3, h4, h5, h6, h7, h8⟩
    refine xX9_goYear_4 ⟨_, rfl, ?_⟩
    rw [h3 1 (by omega) (by omega) (by omega), hw.1.1, if_neg (fun q => absurd ((n_lt (by omega) (by omega)).mp q) (by omega))]
    refine xm_for (n := n) (Q := fun p h => xm_L 5 sX9_goYear kX9_goYear 71 [some (.ref 44), some (.int (Int32.ofNat p)), none, none] [] h (xm_pv gv)) (fun p h => gyI tc A F L c n y n p h) ?_ ?_ 0 _ (Nat.zero_le _) ⟨A', F', rfl, h1, h2, h3, h4, h5, h6, h7, h8⟩
    · clear h1 h2 h3 h4 h5 h6 h7 h8 A' F'
      rintro p h hp ⟨A', F', rfl, h1, h2, h3, h4, h5, h6, h7, h8⟩ ih
      refine xX9_goYear_71 ⟨_, rfl, ?_⟩
      rw [h3 1 (by omega) (by omega) (by omega), hw.1.1, if_pos ((n_lt (by omega) (by omega)).mpr hp)]
      have e69 : A' 69 p = c (16 + p) := by rw [h6 p, if_neg (by omega)]; exact (hw.2.1 p (by omega)).2.2.1
      have ra := (hR.1 p (by omega)).2.1
      refine ⟨_, rfl, _, ln_69 (by omega), ?_⟩
      have t1 : (1 : Int32).toInt = 1 := rfl
      have t99 : (99 : Int32).toInt = 99 := rfl
      unfold bd at ra
      have ea := i_add (a := c (16 + p)) (b := 1) (by omega) (by omega)
      rw [e69, n_succ]
      by_cases ha : c (16 + p) < 99
      · rw [if_pos ha]
        refine ⟨_, rfl, _, ln_69 (by omega), _, sn_69 (by omega), ih _ ⟨_, _, rfl, Ag.up h1 (by simp), h2, h3, ⟨by rw [u_ne (by omega)]; exact h4.1, h4.2⟩, by rw [u_ne (by omega)]; exact h5, ?_, h7, h8⟩⟩
        rw [u_eq]
        refine gy_upd (t := fun q => minI 99 (c (16 + q) + 1)) h6 ?_
        rw [e69, minI_alt, if_neg]
        rw [Int32.lt_iff_toInt_lt] at ha ⊢; omega
      · rw [if_neg ha]
        refine ih _ ⟨_, _, rfl, h1, h2, h3, h4, h5, fun q => ?_, h7, h8⟩
        rw [h6 q]
        by_cases hqp : q = p
        · subst hqp
          rw [if_neg (by omega), if_pos (by omega), (hw.2.1 q (by omega)).2.2.1, minI_alt]
          rw [Int32.lt_iff_toInt_lt] at ha
          rw [if_pos (by rw [Int32.lt_iff_toInt_lt]; omega)]
          exact Int32.toInt_inj.mp (by omega)
        · by_cases hq2 : q < p
          · rw [if_pos hq2, if_pos (by omega)]
          · rw [if_neg hq2, if_neg (by omega)]
    · clear h1 h2 h3 h4 h5 h6 h7 h8 A' F'
      rintro h ⟨A', F', rfl, h1, h2, h3, h4, h5, h6, h7, h8⟩
      refine xX9_goYear_71 ⟨_, rfl, ?_⟩
      rw [h3 1 (by omega) (by omega) (by omega), hw.1.1, if_neg (fun q => absurd ((n_lt (by omega) (by omega)).mp q) (by omega))]
      have hy := hw.1.2.2.1
      have e37 : F' 44 37 = Int32.ofNat y := by rw [h3 37 (by omega) (by omega) (by omega)]; exact hw.1.2.2.2.1
      have e52 : A' 52 = A 52 := h1 52 (by simp)
      have fin : ∀ G : Nat → Nat → Int32, Ag [44] F' G → (∀ k, k ≠ 37 → G 44 k = F' 44 k) → G 44 37 = Int32.ofNat (min 199 (y + 1)) → xm_Call 5 sX9_laySnow 9 [.ref 44] (HP A' L G) (xm_pv fun h10 => xm_pv gv none h10) := by
        intro G g1 g2 g3
        refine m_laySnow (y := min 199 (y + 1)) (by omega) (by omega) g3 (xm_pv_i (H _ _ ⟨h1.mono (fun k hk => by simp at hk ⊢; omega), Ag.up (Ag.tr h2 g1) (by simp), fun k hk => ?_, fun q q1 q2 => ?_⟩ (fun k hk => ?_) (fun d hd1 hd2 => ?_) ?_ ?_))
        · rw [u_eq, u_ne (by omega), g2 k (by omega), h3 k (by omega) (by omega) (by omega)]
        · rw [h1 66 (by simp), h1 67 (by simp), h5 q, h6 q, if_neg (by omega), if_neg (by omega)]
          exact hz q q1 q2
        · rw [u_eq, u_ne (by omega), g2 k (by omega), h3 k (by omega) (by omega) (by omega)]
        · obtain ⟨⟨a1, a2, a3, a4, a5, a6, a7⟩, a8, a9⟩ := hw
          have yk : ∀ k, (24 ≤ k ∧ k < 64) ∨ 64 < k ∨ k < 8 → yrS tc c n y k = c k := fun k hk => by
            unfold yrS; rw [p_ne (by omega)]; exact yrC_at _ _ _ _ _ hn8 (by omega)
          have gk : ∀ k, k ≠ 36 → k ≠ 37 → k ≠ 39 → k ≠ 42 → k ≠ 43 → va_up G 44 (va_up (G 44) 36 (A' 52 (min 199 (y + 1) % 8))) 44 k = F 44 k := fun k k1 k2 k3 k4 k5 => by
            rw [u_eq, u_ne k1, g2 k k2, h3 k k3 k4 k5]
          refine ⟨⟨by rw [gk 1 (by omega) (by omega) (by omega) (by omega) (by omega)]; exact a1, a2, by omega, by rw [u_eq, u_ne (by omega)]; exact g3, by rw [gk 38 (by omega) (by omega) (by omega) (by omega) (by omega), hd1 65 (by omega) (by omega), yk 65 (by omega)]; exact a5, by rw [u_eq, u_eq, hd2, e52], by rw [h1 53 (by simp), hd1 66 (by omega) (by omega), yk 66 (by omega)]; exact a7⟩, fun q hq => ?_, fun q hq => by rw [hd1 (40 + q) (by omega) (by omega), yk (40 + q) (by omega)]; exact a9 q hq⟩
          obtain ⟨b0, b1, b2, b3, b4, b5, b6⟩ := a8 q hq
          rw [h1 45 (by simp), h1 66 (by simp), h1 49 (by simp), h1 67 (by simp), h1 51 (by simp), h5 q, h6 q, hd1 q (by omega) (by omega), hd1 (8 + q) (by omega) (by omega), hd1 (16 + q) (by omega) (by omega), hd1 (24 + q) (by omega) (by omega), hd1 (32 + q) (by omega) (by omega), hd1 (40 + q) (by omega) (by omega), hd1 (48 + q) (by omega) (by omega)]
          rw [yk q (by omega), yk (24 + q) (by omega), yk (32 + q) (by omega), yk (40 + q) (by omega), yk (48 + q) (by omega)]
          have y8 : yrS tc c n y (8 + q) = yrC c y (sSh tc c n y (earsOf c n)) n (8 + q) := by unfold yrS; rw [p_ne (by omega)]
          have y16 : yrS tc c n y (16 + q) = yrC c y (sSh tc c n y (earsOf c n)) n (16 + q) := by unfold yrS; rw [p_ne (by omega)]
          rw [y8, y16]
          by_cases hqn : q < n
          · have yp := yrC_p c y (sSh tc c n y (earsOf c n)) n q hn8 hqn
            rw [if_pos hqn, if_pos hqn]
            exact ⟨b0, yp.1.symm, yp.2.symm, b3, b4, b5, b6⟩
          · rw [if_neg hqn, if_neg hqn, yrC_at _ _ _ _ _ hn8 (by omega), yrC_at _ _ _ _ _ hn8 (by omega)]
            exact ⟨b0, b1, b2, b3, b4, b5, b6⟩
        · rw [u_eq, u_ne (by omega), g2 42 (by omega), h7, sPaid_n hn8]
        · rw [u_eq, u_ne (by omega), g2 43 (by omega), h8]
      refine ⟨_, rfl, ?_⟩
      rw [e37]
      by_cases hy9 : y < 199
      · rw [if_pos (show Int32.ofNat y < (199 : Int32) from (n_lt (q := 199) (by omega) (by omega)).mpr hy9)]
        refine ⟨_, rfl, _, p_44_37, fin _ (Ag.up Ag.rf (by simp)) (fun k hk => by rw [u_eq, u_ne hk]) ?_⟩
        rw [u_eq, u_eq, e37, n_succ, show min 199 (y + 1) = y + 1 by omega]
      · rw [if_neg (show ¬ Int32.ofNat y < (199 : Int32) from fun q => hy9 ((n_lt (q := 199) (by omega) (by omega)).mp q))]
        refine fin _ Ag.rf (fun _ _ => rfl) ?_
        rw [e37, show min 199 (y + 1) = y by omega]
  · rw [if_neg (by omega), s1.1 68 (by simp)]
  · rw [if_neg (by omega), s1.1 69 (by simp)]
  · rw [s1.2.2 42 (by omega)]; exact (Int32.add_zero _).symm
  · rw [s1.2.2 43 (by omega)]; exact (Int32.add_zero _).symm
end MDG
