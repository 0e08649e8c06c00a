section MDE
variable {A : Nat → Nat → Int32} {L : Nat → Nat → Int64} {F : Nat → Nat → Int32} {g : Int32 → xm_H → Prop} {gv : xm_H → Prop} {w n p k j y e m K : Nat} {x v z : Int32} {h : xm_H} {tc : (Nat → Int32) → Int32} {c : Nat → Int32}
theorem n_kern : ∀ e, e < 256 → e ≠ 0 → Int32.ofNat e &&& (Int32.ofNat e - 1) = Int32.ofNat (e &&& (e - 1)) ∧ pCnt e 8 = pCnt (e &&& (e - 1)) 8 + 1 ∧ (e &&& (e - 1)) < e := by decide +kernel
theorem m_bitsOf (hK : 0 < K) (he : e < 256) (H : g (Int32.ofNat (pCnt e 8)) h) : xm_Call K sX9_bitsOf 99 [.int (Int32.ofNat e)] h (xm_pi g) := by
  refine eX9_bitsOf (K := 0) hK ?_
  have key : ∀ (m k e : Nat), e ≤ m → e < 256 → (g (Int32.ofNat (k + pCnt e 8)) h) → xm_L 0 sX9_bitsOf kX9_bitsOf 4 [none, some (.int (Int32.ofNat k)), some (.int (Int32.ofNat e))] [] h (xm_pi g) := by
    intro m
    induction m with
    | zero =>
      intro k e hm he H
      have : e = 0 := by omega
      subst this
      refine xX9_bitsOf_4 ?_
      rw [if_pos (show Int32.ofNat 0 = 0 from rfl)]
      exact xm_pi_i H
    | succ m ih =>
      intro k e hm he H
      refine xX9_bitsOf_4 ?_
      by_cases h0 : e = 0
      · subst h0
        rw [if_pos (show Int32.ofNat 0 = 0 from rfl)]
        exact xm_pi_i H
      · obtain ⟨k1, k2, k3⟩ := n_kern e he h0
        rw [if_neg (show ¬ Int32.ofNat e = 0 from fun q => h0 ((n_eq (q := 0) (by omega) (by omega)).mp q)), k1, n_succ]
        refine ih (k + 1) _ (by omega) (by omega) ?_
        rw [k2] at H
        rw [show k + 1 + pCnt (e &&& (e - 1)) 8 = k + (pCnt (e &&& (e - 1)) 8 + 1) by omega]
        exact H
  exact key e 0 e (Nat.le_refl _) he (by rw [Nat.zero_add]; exact H)
theorem pCnt_cut (he : e < 2 ^ n) : ∀ m, n ≤ m → pCnt e m = pCnt e n
  | 0, h => by have : n = 0 := by omega
               subst this; rfl
  | m + 1, h => by
    by_cases hm : n = m + 1
    · rw [hm]
    · show (if e.testBit m = true then pCnt e m + 1 else pCnt e m) = _
      rw [if_neg (by rw [Nat.testBit_lt_two_pow (Nat.lt_of_lt_of_le he (Nat.pow_le_pow_right (by omega) (by omega)))]; decide)]
      exact pCnt_cut he m (by omega)
theorem pCnt_pos (hb : e.testBit p = true) : ∀ m, p < m → pCnt e m ≠ 0
  | 0, h => absurd h (by omega)
  | m + 1, h => by
    show (if e.testBit m = true then pCnt e m + 1 else pCnt e m) ≠ 0
    by_cases hp : p = m
    · subst hp; rw [if_pos hb]; omega
    · have := pCnt_pos hb m (by omega)
      split <;> omega
theorem m_pooledBy (hK : 3 < K) (hw : Mw A F n y c) (hr : MsR tc c n y A F) (he : e < 2 ^ n) (h0 : pCnt e n ≠ 0) (H : g (pldS e (sSh tc c n y (earsOf c n)) n) (HP A L F)) : xm_Call K sX9_pooledBy 9 [.ref 44, .int (Int32.ofNat e)] (HP A L F) (xm_pi g) := by
  have hn8 := hw.1.2.1
  have h256 : e < 256 := Nat.lt_of_lt_of_le he (Nat.le_trans (Nat.pow_le_pow_right (by omega) hn8) (by decide))
  have hc := pCnt_le e n
  refine eX9_pooledBy (K := 3) hK ⟨_, rfl⟩ (m_bitsOf (by omega) h256 ?_)
  rw [pCnt_cut he 8 hn8]
  refine m_sharesOf (tc := tc) (n := n) (y := y) (c := c) (by omega) hw hr h256 ⟨fun q => h0 ((n_eq (q := 0) (by omega) (by omega)).mp q), xm_pi_i ?_⟩
  rw [pldS, if_neg h0] at H
  exact H
/-! pool -/
theorem n_ush : ∀ n, n ≤ 8 → (Int32.ofNat n).toUInt32 &&& Int32.toUInt32 31 = UInt32.ofNat n := by decide +kernel
theorem n_shr0 (hn : n ≤ 8) : ((((Int32.toUInt32 x) >>> ((Int32.toUInt32 (Int32.ofNat n)) &&& Int32.toUInt32 31)).toInt32) = 0) ↔ ∃ e, e < 2 ^ n ∧ x = Int32.ofNat e := by
  rw [n_ush n hn]
  have h1 : ((x.toUInt32 >>> UInt32.ofNat n).toInt32 = 0) ↔ (x.toUInt32 >>> UInt32.ofNat n).toNat = 0 := by
    constructor
    · intro q
      have : (x.toUInt32 >>> UInt32.ofNat n) = (0 : Int32).toUInt32 := congrArg Int32.toUInt32 q
      rw [this]; rfl
    · intro q
      have : (x.toUInt32 >>> UInt32.ofNat n) = 0 := UInt32.toNat_inj.mp q
      rw [this]; rfl
  rw [h1, UInt32.toNat_shiftRight, UInt32.toNat_ofNat_of_lt' (by show n < 4294967296; omega), Nat.mod_eq_of_lt (by omega), Nat.shiftRight_eq_div_pow]
  constructor
  · intro q
    refine ⟨x.toUInt32.toNat, ?_, ?_⟩
    · rcases Nat.div_eq_zero_iff.mp q with h2 | h2
      · exact absurd h2 (Nat.ne_of_gt (Nat.two_pow_pos n))
      · exact h2
    · have : UInt32.ofNat x.toUInt32.toNat = x.toUInt32 := UInt32.ofNat_toNat
      exact congrArg UInt32.toInt32 this.symm
  · rintro ⟨e, he, rfl⟩
    have h256 : e < 256 := Nat.lt_of_lt_of_le he (Nat.le_trans (Nat.pow_le_pow_right (by omega) hn) (by decide))
    have : (Int32.ofNat e).toUInt32.toNat = e := by
      show (UInt32.ofNat e).toNat = e
      exact UInt32.toNat_ofNat_of_lt' (by show e < 4294967296; omega)
    rw [this]
    exact Nat.div_eq_of_lt he
theorem n_bit0 : ∀ e, e < 256 → ∀ p, p < 8 → (((Int32.ofNat e >>> (Int32.ofNat p &&& 31)) &&& 1 = 0) ↔ e.testBit p = false) := by decide +kernel
def okP (n : Nat) (x1 x2 : Int32) : Prop := ∃ p e, p < n ∧ x2 = Int32.ofNat p ∧ e < 2 ^ n ∧ x1 = Int32.ofNat e ∧ e.testBit p = true
theorem lt256 (hn : n ≤ 8) (he : e < 2 ^ n) : e < 256 := Nat.lt_of_lt_of_le he (Nat.le_trans (Nat.pow_le_pow_right (by omega) hn) (by decide))
theorem pldS_eq {s t : Nat → Int32} (h : ∀ q, q < n → s q = t q) : pldS e s n = pldS e t n := by unfold pldS; rw [pSum_eq n h]
theorem q_pool (hK : 7 < K) (hN : NowOk A F tc n y) {x1 x2 : Int32} (H : ∀ p e, p < n → e < 2 ^ n → x1 = Int32.ofNat e → x2 = Int32.ofNat p → e.testBit p = true → ∀ A' F', Sc A F A' F' → g (sSh tc (A 2) n y (earsOf (A 2) n) p - pldS e (sSh tc (A 2) n y (earsOf (A 2) n)) n) (HP A' L F')) (H2 : ¬ okP n x1 x2 → g (-2000000000) (HP A L F)) : xm_Call K sX8_pool 8 [.ref 0, .int x1, .int x2] (HP A L F) (xm_pi g) := by
  have hn8 := hN.1.2.2.1
  refine eX8_pool (K := 7) hK ⟨_, rfl⟩ ⟨_, rfl, c_has (n := n) (by omega) hN.1.1 hN.1.2.1 hn8 (fun p hp he => ?_) (fun q => ?_)⟩
  · rw [if_neg (by decide)]
    refine ⟨_, rfl, _, w_people hN.1.1, ?_⟩
    rw [hN.1.2.1]
    by_cases hsh : ((((Int32.toUInt32 x1) >>> ((Int32.toUInt32 (Int32.ofNat n)) &&& Int32.toUInt32 31)).toInt32) = 0)
    · rw [if_pos hsh]
      obtain ⟨e, he2, hx1⟩ := (n_shr0 hn8).mp hsh
      subst hx1
      subst he
      have h256 := lt256 hn8 he2
      cases hb : e.testBit p with
      | false =>
        rw [if_pos ((n_bit0 e h256 p (by omega)).mpr hb)]
        refine xm_pi_i (H2 (fun ⟨p', e', a1, a2, a3, a4, a5⟩ => ?_))
        have : p = p' := (n_eq (by omega) (by omega)).mp a2
        have : e = e' := (n_eq (by omega) (by have := lt256 hn8 a3; omega)).mp a4
        subst_vars
        rw [hb] at a5; cases a5
      | true =>
        rw [if_neg (fun q => by have := (n_bit0 e h256 p (by omega)).mp q; rw [hb] at this; cases this)]
        refine ⟨_, rfl, _, rfl, c_reckonN (by omega) hN (fun A1 F1 a1 a2 => ⟨_, rfl, _, rfl, _, ln_12 (by omega), ?_⟩)⟩
        have hN1 := a1.now hN
        refine c_pooled (by omega) hN1.1.2.1 hn8 h256 (xm_pi_i ?_)
        rw [a2.2.2.1 p (by omega), pldS_eq (fun q hq => a2.2.2.1 q (by omega))]
        exact H p e hp he2 rfl rfl hb A1 F1 a1
    · rw [if_neg hsh]
      exact xm_pi_i (H2 (fun ⟨p', e', a1, a2, a3, a4, a5⟩ => hsh ((n_shr0 hn8).mpr ⟨e', a3, a4⟩)))
  · rw [if_pos rfl]
    refine xm_pi_i (H2 (fun ⟨p', e', a1, a2, a3, a4, a5⟩ => ?_))
    rw [a2] at q
    exact q.elim (xs_nn (by omega)) (fun z => z ((n_lt (by omega) (by omega)).mpr a1))
theorem r_pool (hK : 6 < K) (hM : ModOk A F tc n y c) {x1 x2 : Int32} (H : ∀ p e, p < n → e < 2 ^ n → x1 = Int32.ofNat e → x2 = Int32.ofNat p → e.testBit p = true → ∀ A' F', Mq A F A' F' n → g (sSh tc c n y (earsOf c n) p - pldS e (sSh tc c n y (earsOf c n)) n) (HP A' L F')) (H2 : ¬ okP n x1 x2 → g (-2000000000) (HP A L F)) : xm_Call K sX9_pool 9 [.ref 44, .int x1, .int x2] (HP A L F) (xm_pi g) := by
  have hn8 := hM.1.1.2.1
  refine eX9_pool (K := 6) hK ⟨_, rfl⟩ (m_isOne (n := n) (by omega) hM.1.1.1 hn8 (fun p hp he => ?_) (fun q => ?_))
  · rw [if_neg (by decide)]
    refine eX9_everybody (K := 0) (by omega) ⟨_, rfl⟩ ⟨_, rfl, xm_pi_i (m_in (by omega) ?_)⟩
    rw [hM.1.1.1, n_evb n hn8]
    have hp2 := Nat.two_pow_pos n
    have h28 : 2 ^ n ≤ 256 := Nat.le_trans (Nat.pow_le_pow_right (by omega) hn8) (by decide)
    by_cases a1 : x1 < 1
    · rw [if_pos a1, if_pos rfl]
      refine xm_pi_i (H2 (fun ⟨p', e', b1, b2, b3, b4, b5⟩ => ?_))
      rw [b4] at a1
      have : e' < 1 := (n_lt (q := 1) (by omega) (by omega)).mp a1
      have : e' = 0 := by omega
      subst this
      simp at b5
    · rw [if_neg a1]
      by_cases a2 : Int32.ofNat (2 ^ n - 1) < x1
      · rw [if_pos a2, if_pos rfl]
        refine xm_pi_i (H2 (fun ⟨p', e', b1, b2, b3, b4, b5⟩ => ?_))
        rw [b4] at a2
        have := (n_lt (by omega) (by omega)).mp a2
        omega
      · rw [if_neg a2, if_neg (by decide)]
        obtain ⟨e, he2, hx⟩ : ∃ e, e < 2 ^ n ∧ x1 = Int32.ofNat e := by
          refine n_of (by omega) ?_ ?_
          · rw [Int32.lt_iff_toInt_lt] at a1 ⊢
            have : (1 : Int32).toInt = 1 := rfl
            have : (0 : Int32).toInt = 0 := rfl
            omega
          · rw [Int32.lt_iff_toInt_lt, n_ti (by omega)] at a2 ⊢
            omega
        subst hx
        subst he
        have h256 := lt256 hn8 he2
        refine m_has (by omega) h256 (by omega) ?_
        by_cases hb : e.testBit p = true
        · rw [if_pos hb, if_neg (by decide)]
          refine m_layNow (by omega) hM.1 (fun A1 F1 q1 _ w1 => m_assess (tc := tc) (n := n) (y := y) (c := c) (by omega) w1 (q1.ok hM).2 (fun A2 F2 s2 r2 => ?_))
          refine m_shareOf (tc := tc) (n := n) (y := y) (c := c) (by omega) (s2.mw w1) r2 hp (m_pooledBy (tc := tc) (n := n) (y := y) (c := c) (by omega) (s2.mw w1) r2 he2 (pCnt_pos hb n hp) (xm_pi_i ?_))
          exact H p e hp he2 rfl rfl hb A2 F2 (q1.tr (s2.mq q1.2.2.2))
        · rw [if_neg hb, if_pos rfl]
          refine xm_pi_i (H2 (fun ⟨p', e', b1, b2, b3, b4, b5⟩ => ?_))
          have : p = p' := (n_eq (by omega) (by omega)).mp b2
          have : e = e' := (n_eq (by omega) (by have := lt256 hn8 b3; omega)).mp b4
          subst_vars
          exact hb b5
  · rw [if_pos rfl]
    refine xm_pi_i (H2 (fun ⟨p', e', a1, a2, a3, a4, a5⟩ => ?_))
    rw [a2] at q
    exact q.elim (xs_nn (by omega)) (fun z => z ((n_lt (by omega) (by omega)).mpr a1))
end MDE
