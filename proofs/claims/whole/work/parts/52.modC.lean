section MDC
variable {A : Nat → Nat → Int32} {L : Nat → Nat → Int64} {F : Nat → Nat → Int32} {g : Int32 → xm_H → Prop} {gv : xm_H → Prop} {w n p k j y e m K : Nat} {x v z : Int32} {h : xm_H} {tc : (Nat → Int32) → Int32} {c : Nat → Int32}
/-- what the reference holds now is the world c -/
def MnP (A : Nat → Nat → Int32) (c : Nat → Int32) : Prop := ∀ p, p < 8 → A 45 p = c p ∧ A 46 p = c (8 + p) ∧ A 47 p = c (16 + p) ∧ A 48 p = c (24 + p) ∧ A 49 p = c (32 + p) ∧ A 50 p = c (40 + p) ∧ A 51 p = c (48 + p)
/-- nobody stands where nobody came yet -/
def Mz (A : Nat → Nat → Int32) (n : Nat) : Prop := ∀ p, n ≤ p → p < 8 → A 66 p = 0 ∧ A 67 p = 0 ∧ A 68 p = 0 ∧ A 69 p = 0
def Mn (A F : Nat → Nat → Int32) (n y : Nat) (c : Nat → Int32) : Prop :=
  (F 44 1 = Int32.ofNat n ∧ n ≤ 8 ∧ y < 200 ∧ A 53 0 = Int32.ofNat y ∧ A 53 1 = c 65 ∧ A 53 2 = c 66) ∧ MnP A c ∧ (∀ j, j < 8 → A 52 j = c (56 + j)) ∧ (∀ p, p < n → c (40 + p) = 0 ∨ c (40 + p) = 1) ∧ (∀ p, n ≤ p → p < 8 → c (8 + p) = 0 ∧ c (16 + p) = 0 ∧ c (24 + p) = 0 ∧ c (40 + p) = 0) ∧ Mz A n
/-- only what is gone through in thought has changed -/
def Mq (A F A' F' : Nat → Nat → Int32) (n : Nat) : Prop := Ag [64, 65, 66, 67, 68, 69, 70, 71] A A' ∧ Ag [44] F F' ∧ (∀ k, k < 36 ∨ 43 < k → F' 44 k = F 44 k) ∧ Mz A' n
theorem Mq.tr {B G A' F' : Nat → Nat → Int32} (h1 : Mq A F B G n) (h2 : Mq B G A' F' n) : Mq A F A' F' n := ⟨Ag.tr h1.1 h2.1, Ag.tr h1.2.1 h2.2.1, fun k hk => (h2.2.2.1 k hk).trans (h1.2.2.1 k hk), h2.2.2.2⟩
theorem Mq.rf (h : Mz A n) : Mq A F A F n := ⟨Ag.rf, Ag.rf, fun _ _ => rfl, h⟩
theorem Ms.mz {A' F' : Nat → Nat → Int32} (h : Ms A F A' F') (hz : Mz A n) : Mz A' n := fun p h1 h2 => by
  rw [h.1 66 (by simp), h.1 67 (by simp), h.1 68 (by simp), h.1 69 (by simp)]; exact hz p h1 h2
theorem Ms.mq {A' F' : Nat → Nat → Int32} (h : Ms A F A' F') (hz : Mz A n) : Mq A F A' F' n := ⟨h.1.mono (fun k hk => by simp at hk ⊢; omega), h.2.1, fun k hk => h.2.2 k (by omega), h.mz hz⟩
theorem Mq.mn {A' F' : Nat → Nat → Int32} (h : Mq A F A' F' n) (hm : Mn A F n y c) : Mn A' F' n y c := by
  obtain ⟨⟨a1, a2, a3, a4, a5, a6⟩, a7, a8, a9, a10, a11⟩ := hm
  have e : ∀ k, k ∉ [64, 65, 66, 67, 68, 69, 70, 71] → A' k = A k := h.1
  refine ⟨⟨by rw [h.2.2.1 1 (by omega)]; exact a1, a2, a3, by rw [e 53 (by simp)]; exact a4, by rw [e 53 (by simp)]; exact a5, by rw [e 53 (by simp)]; exact a6⟩, fun p hp => ?_, by rw [e 52 (by simp)]; exact a8, a9, a10, h.2.2.2⟩
  rw [e 45 (by simp), e 46 (by simp), e 47 (by simp), e 48 (by simp), e 49 (by simp), e 50 (by simp), e 51 (by simp)]
  exact a7 p hp
/-- the reference can be asked -/
def ModOk (A F : Nat → Nat → Int32) (tc : (Nat → Int32) → Int32) (n y : Nat) (c : Nat → Int32) : Prop := Mn A F n y c ∧ TXm A F tc
theorem Mq.ok {A' F' : Nat → Nat → Int32} (h : Mq A F A' F' n) (hm : ModOk A F tc n y c) : ModOk A' F' tc n y c := ⟨h.mn hm.1, hm.2.to h.1 (by simp) (h.2.2.1 30 (by omega))⟩
theorem m_laySnow (hK : 0 < K) (hy : y < 200) (h37 : F 44 37 = Int32.ofNat y) (H : gv (HP A L (va_up F 44 (va_up (F 44) 36 (A 52 (y % 8)))))) : xm_Call K sX9_laySnow 9 [.ref 44] (HP A L F) (xm_pv gv) := by
  refine eX9_laySnow (K := 0) hK ⟨_, rfl⟩ ⟨_, rfl, _, rfl, by decide, _, ?_, _, p_44_36, xm_pv_i H⟩
  rw [h37, (n_fm y hy).2]
  exact ln_52 (Nat.mod_lt _ (by omega))
def lnI (A F : Nat → Nat → Int32) (L : Nat → Nat → Int64) (n p : Nat) (h : xm_H) : Prop := ∃ A', h = HP A' L F ∧ Ag [66, 67, 68, 69] A A' ∧ (∀ q, q < p → A' 66 q = A 48 q ∧ A' 67 q = A 50 q ∧ A' 68 q = A 46 q ∧ A' 69 q = A 47 q) ∧ Mz A' n
theorem fill2 {f : Nat → Int32} {q p : Nat} {v s : Int32} (hq : q < p + 1) (h : q < p → f q = s) (hv : q = p → v = s) : upd f p v q = s := by
  by_cases hqp : q = p
  · subst hqp; rw [p_eq]; exact hv rfl
  · rw [p_ne hqp]; exact h (by omega)
theorem m_layNow (hK : 1 < K) (hm : Mn A F n y c) (H : ∀ A' F', Mq A F A' F' n → (∀ k, k < 36 ∨ 38 < k → F' 44 k = F 44 k) → Mw A' F' n y c → gv (HP A' L F')) : xm_Call K sX9_layNow 9 [.ref 44] (HP A L F) (xm_pv gv) := by
  obtain ⟨⟨a1, a2, a3, a4, a5, a6⟩, a7, a8, a9, a10, a11⟩ := hm
  refine eX9_layNow (K := 1) hK ⟨_, rfl⟩ ?_
  refine xm_for (n := n) (Q := fun p h => xm_L 1 sX9_layNow kX9_layNow 2 [some (.ref 44), some (.int (Int32.ofNat p))] [] h (xm_pv gv)) (lnI A F L n) ?_ ?_ 0 _ (Nat.zero_le _) ⟨A, rfl, Ag.rf, fun q hq => absurd hq (by omega), a11⟩
  · rintro p h hp ⟨A', rfl, h1, h2, h3⟩ ih
    refine xX9_layNow_2 ⟨_, rfl, ?_⟩
    rw [a1, if_pos ((n_lt (by omega) (by omega)).mpr hp)]
    refine ⟨_, rfl, _, rfl, _, ln_48 (by omega), _, sn_66 (by omega), _, rfl, _, rfl, _, ln_50 (by omega), _, sn_67 (by omega), _, rfl, _, rfl, _, ln_46 (by omega), _, sn_68 (by omega), _, rfl, _, rfl, _, ln_47 (by omega), _, sn_69 (by omega), ?_⟩
    rw [n_succ]
    have e48 : A' 48 = A 48 := h1 48 (by simp)
    have e50 : A' 50 = A 50 := h1 50 (by simp)
    have e46 : A' 46 = A 46 := h1 46 (by simp)
    have e47 : A' 47 = A 47 := h1 47 (by simp)
    refine ih _ ⟨_, rfl, Ag.up (Ag.up (Ag.up (Ag.up h1 (by simp)) (by simp)) (by simp)) (by simp), fun q hq => ?_, fun q h4 h5 => ?_⟩
    · refine ⟨?_, ?_, ?_, ?_⟩
      · show upd (A' 66) p (A' 48 p) q = _
        exact fill2 hq (fun z => (h2 q z).1) (fun z => by rw [e48, z])
      · show upd (A' 67) p (A' 50 p) q = _
        exact fill2 hq (fun z => (h2 q z).2.1) (fun z => by rw [e50, z])
      · show upd (A' 68) p (A' 46 p) q = _
        exact fill2 hq (fun z => (h2 q z).2.2.1) (fun z => by rw [e46, z])
      · show upd (A' 69) p (A' 47 p) q = _
        exact fill2 hq (fun z => (h2 q z).2.2.2) (fun z => by rw [e47, z])
    · obtain ⟨z1, z2, z3, z4⟩ := h3 q h4 h5
      exact ⟨(p_ne (f := A' 66) (by omega)).trans z1, (p_ne (f := A' 67) (by omega)).trans z2, (p_ne (f := A' 68) (by omega)).trans z3, (p_ne (f := A' 69) (by omega)).trans z4⟩
  · rintro h ⟨A', rfl, h1, h2, h3⟩
    refine xX9_layNow_2 ⟨_, rfl, ?_⟩
    rw [a1, if_neg (fun q => absurd ((n_lt (by omega) (by omega)).mp q) (by omega))]
    have e53 : A' 53 = A 53 := h1 53 (by simp)
    refine ⟨_, rfl, _, ln_53 (j := 0) (by omega), _, p_44_37, _, rfl, _, ln_53 (j := 1) (by omega), _, p_44_38, ?_⟩
    refine m_laySnow (y := y) (by omega) a3 (by show A' 53 0 = _; rw [e53]; exact a4) (xm_pv_i (H _ _ ⟨h1.mono (fun k hk => by simp at hk ⊢; omega), Ag.up (Ag.up (Ag.up Ag.rf (by simp)) (by simp)) (by simp), fun k hk => ?_, h3⟩ (fun k hk => ?_) ⟨⟨a1, a2, a3, ?_, ?_, ?_, ?_⟩, fun q hq => ?_, a9⟩))
    · rw [u_eq, u_ne (by omega), u_eq, u_ne (by omega), u_eq, u_ne (by omega)]
    · rw [u_eq, u_ne (by omega), u_eq, u_ne (by omega), u_eq, u_ne (by omega)]
    · show A' 53 0 = _; rw [e53]; exact a4
    · show A' 53 1 = _; rw [e53]; exact a5
    · show A' 52 (y % 8) = _; rw [h1 52 (by simp)]; exact a8 _ (Nat.mod_lt _ (by omega))
    · rw [e53]; exact a6
    · obtain ⟨b0, b1, b2, b3, b4, b5, b6⟩ := a7 q hq
      rw [h1 45 (by simp), h1 49 (by simp), h1 51 (by simp)]
      by_cases hqn : q < n
      · obtain ⟨d1, d2, d3, d4⟩ := h2 q hqn
        exact ⟨b0, by rw [d3]; exact b1, by rw [d4]; exact b2, by rw [d1]; exact b3, b4, by rw [d2]; exact b5, b6⟩
      · obtain ⟨d1, d2, d3, d4⟩ := h3 q (by omega) hq
        obtain ⟨k1, k2, k3, k4⟩ := a10 q (by omega) hq
        exact ⟨b0, by rw [d3, k1], by rw [d4, k2], by rw [d1, k3], b4, by rw [d2, k4], b6⟩
theorem m_in (hK : 0 < K) {x0 x1 x2 : Int32} (H : g (if x0 < x1 then 0 else if x2 < x0 then 0 else 1) h) : xm_Call K sX9_in 99 [.int x0, .int x1, .int x2] h (xm_pi g) := by
  refine eX9_in (K := 0) hK ?_
  split
  · next h1 => rw [if_pos h1] at H; exact xm_pi_i H
  · next h1 =>
    rw [if_neg h1] at H
    split
    · next h2 => rw [if_pos h2] at H; exact xm_pi_i H
    · next h2 => rw [if_neg h2] at H; exact xm_pi_i H
theorem n_pred_lt {x : Int32} (hn : n ≤ 8) (h0 : ¬ x < 0) : (Int32.ofNat n - 1 < x) ↔ ¬ x < Int32.ofNat n := by
  have e1 : (Int32.ofNat n - 1).toInt = (n : Int) - 1 := by
    have : ∀ n, n ≤ 8 → (Int32.ofNat n - 1).toInt = (n : Int) - 1 := by decide +kernel
    exact this n hn
  rw [Int32.lt_iff_toInt_lt, Int32.lt_iff_toInt_lt, e1, n_ti (by omega)]
  omega
theorem m_isOne (hK : 1 < K) (hn : F 44 1 = Int32.ofNat n) (hn8 : n ≤ 8) (H : ∀ p, p < n → x = Int32.ofNat p → g 1 (HP A L F)) (H2 : (x < 0 ∨ ¬ x < Int32.ofNat n) → g 0 (HP A L F)) : xm_Call K sX9_isOne 9 [.ref 44, .int x] (HP A L F) (xm_pi g) := by
  refine eX9_isOne (K := 1) hK ⟨_, rfl⟩ ⟨_, rfl, m_in (by omega) ?_⟩
  rw [hn]
  by_cases h0 : x < 0
  · rw [if_pos h0, if_pos (Or.inl rfl)]; exact xm_pi_i (H2 (Or.inl h0))
  · rw [if_neg h0]
    by_cases h1 : x < Int32.ofNat n
    · rw [if_neg (fun q => (n_pred_lt hn8 h0).mp q h1), if_pos (Or.inr rfl)]
      obtain ⟨p, hp, he⟩ := n_of (by omega) h0 h1
      exact xm_pi_i (H p hp he)
    · rw [if_pos ((n_pred_lt hn8 h0).mpr h1), if_pos (Or.inl rfl)]; exact xm_pi_i (H2 (Or.inr h1))
/-! the reference's answers -/
theorem r_counts (hK : 4 < K) (hM : ModOk A F tc n y c) (H : ∀ p, p < n → x = Int32.ofNat p → ∀ A' F', Mq A F A' F' n → g (cntW tc c n y p) (HP A' L F')) (H2 : (x < 0 ∨ ¬ x < Int32.ofNat n) → g (-1) (HP A L F)) : xm_Call K sX9_counts 9 [.ref 44, .int x] (HP A L F) (xm_pi g) := by
  refine eX9_counts (K := 4) hK ⟨_, rfl⟩ (m_isOne (n := n) (by omega) hM.1.1.1 hM.1.1.2.1 (fun p hp he => ?_) (fun q => ?_))
  · rw [if_neg (by decide)]
    subst he
    refine m_layNow (by omega) hM.1 (fun A1 F1 q1 _ w1 => m_countsBy (tc := tc) (n := n) (y := y) (c := c) (by omega) w1 hp (q1.ok hM).2 (fun A2 a2 => xm_pi_i (H p hp rfl A2 F1 (q1.tr ?_))))
    exact (show Ms A1 F1 A2 F1 from ⟨a2.mono (fun k hk => by simp at hk ⊢; omega), Ag.rf, fun _ _ => rfl⟩).mq q1.2.2.2
  · rw [if_pos rfl]; exact xm_pi_i (H2 q)
theorem r_share (hK : 6 < K) (hM : ModOk A F tc n y c) (H : ∀ p, p < n → x = Int32.ofNat p → ∀ A' F', Mq A F A' F' n → g (sSh tc c n y (earsOf c n) p) (HP A' L F')) (H2 : (x < 0 ∨ ¬ x < Int32.ofNat n) → g (-1) (HP A L F)) : xm_Call K sX9_share 9 [.ref 44, .int x] (HP A L F) (xm_pi g) := by
  refine eX9_share (K := 6) hK ⟨_, rfl⟩ (m_isOne (n := n) (by omega) hM.1.1.1 hM.1.1.2.1 (fun p hp he => ?_) (fun q => ?_))
  · rw [if_neg (by decide)]
    subst he
    exact m_layNow (by omega) hM.1 (fun A1 F1 q1 _ w1 => m_shareNow (tc := tc) (n := n) (y := y) (c := c) (by omega) w1 (q1.ok hM).2 hp (fun A2 F2 s2 => xm_pi_i (H p hp rfl A2 F2 (q1.tr (s2.mq q1.2.2.2)))))
  · rw [if_pos rfl]; exact xm_pi_i (H2 q)
theorem r_worth (hK : 7 < K) (hM : ModOk A F tc n y c) (H : ∀ p, p < n → x = Int32.ofNat p → ∀ A' F', Mq A F A' F' n → g (wrt tc c n y p) (HP A' L F')) (H2 : (x < 0 ∨ ¬ x < Int32.ofNat n) → g (-2000000000) (HP A L F)) : xm_Call K sX9_worth 9 [.ref 44, .int x] (HP A L F) (xm_pi g) := by
  refine eX9_worth (K := 7) hK ⟨_, rfl⟩ (m_isOne (n := n) (by omega) hM.1.1.1 hM.1.1.2.1 (fun p hp he => ?_) (fun q => ?_))
  · rw [if_neg (by decide)]
    subst he
    exact m_layNow (by omega) hM.1 (fun A1 F1 q1 _ w1 => m_worthBy (tc := tc) (n := n) (y := y) (c := c) (by omega) w1 (q1.ok hM).2 hp (fun A2 F2 s2 => xm_pi_i (H p hp rfl A2 F2 (q1.tr (s2.mq q1.2.2.2)))))
  · rw [if_pos rfl]; exact xm_pi_i (H2 q)
end MDC
