section MDI
variable {A : Nat → Nat → Int32} {L : Nat → Nat → Int64} {F : Nat → Nat → Int32} {g : Int32 → xm_H → Prop} {gv : xm_H → Prop} {w n p k j y e m K : Nat} {x v z : Int32} {h : xm_H} {tc : (Nat → Int32) → Int32} {c : Nat → Int32}
theorem posB_bit {f : Nat → Int32} : (posB f n).testBit p = decide (p < n ∧ 0 < f p) := by
  unfold posB
  rw [bitsN_bit]
  by_cases h : 0 < f p <;> simp [h]
theorem posB_cnt {f : Nat → Int32} : ∀ m, m ≤ n → pCnt (posB f n) m = posC f m
  | 0, _ => rfl
  | m + 1, hm => by
    show (if (posB f n).testBit m = true then pCnt (posB f n) m + 1 else pCnt (posB f n) m) = posC f m + (if 0 < f m then 1 else 0)
    rw [posB_cnt m (by omega), posB_bit]
    by_cases h : 0 < f m
    · rw [if_pos (decide_eq_true ⟨by omega, h⟩), if_pos h]
    · rw [if_neg (fun q => h (of_decide_eq_true q).2), if_neg h, Nat.add_zero]
theorem m_assessedBits (hK : 0 < K) (hw : Mw A F n y c) (hr : MsR tc c n y A F) (H : g (Int32.ofNat (posB (sAs tc c n y (earsOf c n)) n)) (HP A L F)) : xm_Call K sX9_assessedBits 9 [.ref 44] (HP A L F) (xm_pi g) := by
  have hn8 := hw.1.2.1
  refine eX9_assessedBits (K := 0) hK ⟨_, rfl⟩ ?_
  refine xm_for (n := n) (Q := fun p h => xm_L 0 sX9_assessedBits kX9_assessedBits 4 [some (.ref 44), some (.int (Int32.ofNat (posB (sAs tc c n y (earsOf c n)) p))), some (.int (Int32.ofNat p))] [] h (xm_pi g)) (fun _ h => h = HP A L F) ?_ ?_ 0 _ (Nat.zero_le _) rfl
  · rintro p h hp rfl ih
    have hi := ih _ rfl
    refine xX9_assessedBits_4 ⟨_, rfl, ?_⟩
    rw [hw.1.1, if_pos ((n_lt (by omega) (by omega)).mpr hp)]
    refine ⟨_, rfl, _, ln_70 (by omega), ?_⟩
    rw [hr.1 p hp, n_succ]
    by_cases h0 : 0 < sAs tc c n y (earsOf c n) p
    · rw [if_pos h0, posB_or (by omega) h0]; exact hi
    · rw [if_neg h0]; rw [posB_n h0] at hi; exact hi
  · rintro h rfl
    refine xX9_assessedBits_4 ⟨_, rfl, ?_⟩
    rw [hw.1.1, if_neg (n_ge (by omega) (by omega) (Nat.le_refl _))]
    exact xm_pi_i H
theorem m_assessedMany (hK : 5 < K) (hM : ModOk A F tc n y c) (H : ∀ A' F', Mq A F A' F' n → g (Int32.ofNat (posC (sAs tc c n y (earsOf c n)) n)) (HP A' L F')) : xm_Call K sX9_assessedMany 9 [.ref 44] (HP A L F) (xm_pi g) := by
  have hn8 := hM.1.1.2.1
  refine eX9_assessedMany (K := 5) hK ⟨_, rfl⟩ (m_layNow (by omega) hM.1 (fun A1 F1 q1 _ w1 => m_assess (tc := tc) (n := n) (y := y) (c := c) (by omega) w1 (q1.ok hM).2 (fun A2 F2 s2 r2 => m_assessedBits (by omega) (s2.mw w1) r2 (m_bitsOf (by omega) (posB_lt _ hn8) (xm_pi_i ?_)))))
  rw [pCnt_cut (e := posB (sAs tc c n y (earsOf c n)) n) (bitsN_lt _ n) 8 hn8, posB_cnt n (Nat.le_refl _)]
  exact H A2 F2 (q1.tr (s2.mq q1.2.2.2))
theorem posB_0 {f : Nat → Int32} (h : ∀ q, q < n → ¬ 0 < f q) : posB f n = 0 := by
  refine Nat.eq_of_testBit_eq (fun i => ?_)
  rw [posB_bit, Nat.zero_testBit]
  exact decide_eq_false (fun q => h i q.1 q.2)
theorem r_spared (hK : 6 < K) (hM : ModOk A F tc n y c) (H : ∀ A' F', Mq A F A' F' n → g (Int32.ofNat (sprS (sAs tc c n y (earsOf c n)) (sSh tc c n y (earsOf c n)) n)) (HP A' L F')) : xm_Call K sX9_spared 9 [.ref 44] (HP A L F) (xm_pi g) := by
  have hn8 := hM.1.1.2.1
  refine eX9_spared (K := 6) hK ⟨_, rfl⟩ (m_layNow (by omega) hM.1 (fun A1 F1 q1 _ w1 => m_assess (tc := tc) (n := n) (y := y) (c := c) (by omega) w1 (q1.ok hM).2 (fun A2 F2 s2 r2 => m_assessedBits (by omega) (s2.mw w1) r2 ?_)))
  have w2 := s2.mw w1
  have hh := H A2 F2 (q1.tr (s2.mq q1.2.2.2))
  generalize hs : sSh tc c n y (earsOf c n) = sh at *
  generalize ha : sAs tc c n y (earsOf c n) = as at *
  have hlt : posB as n < 2 ^ n := bitsN_lt _ n
  have h256 := posB_lt as hn8
  by_cases h0 : posB as n = 0
  · rw [h0, if_pos (show Int32.ofNat 0 = 0 from rfl)]
    have : sprS as sh n = 0 := by
      refine posB_0 (fun q hq => ?_)
      have hb : (posB as n).testBit q = decide (q < n ∧ 0 < as q) := posB_bit
      rw [h0, Nat.zero_testBit] at hb
      have hb2 : ¬ 0 < as q := fun z => by simp [hq, z] at hb
      rw [if_neg (fun z => hb2 z.1)]; decide
    rw [this] at hh
    exact xm_pi_i hh
  · rw [if_neg (show ¬ Int32.ofNat (posB as n) = 0 from fun q => h0 ((n_eq (q := 0) (by omega) (by omega)).mp q))]
    refine xm_for (n := n) (Q := fun p h => xm_L 6 sX9_spared kX9_spared 15 [some (.ref 44), some (.int (Int32.ofNat (posB as n))), some (.int (Int32.ofNat (posB (fun q => if 0 < as q ∧ pldS (posB as n) sh n < sh q then 1 else 0) p))), some (.int (Int32.ofNat p))] [] h (xm_pi g)) (fun _ h => h = HP A2 L F2) ?_ ?_ 0 _ (Nat.zero_le _) rfl
    · rintro p h hp rfl ih
      have hi := ih _ rfl
      refine xX9_spared_15 ⟨_, rfl, ?_⟩
      rw [w2.1.1, if_pos ((n_lt (by omega) (by omega)).mpr hp)]
      refine m_has (by omega) h256 (by omega) ?_
      rw [n_succ]
      by_cases hb : (posB as n).testBit p = true
      · have hap : 0 < as p := by rw [posB_bit] at hb; exact (of_decide_eq_true hb).2
        rw [if_pos hb, if_neg (by decide)]
        refine m_pooledBy (tc := tc) (n := n) (y := y) (c := c) (by omega) w2 r2 hlt (pCnt_pos hb n hp) ?_
        refine m_shareOf (tc := tc) (n := n) (y := y) (c := c) (by omega) w2 r2 hp ?_
        rw [hs]
        by_cases hc : pldS (posB as n) sh n < sh p
        · rw [if_pos hc, posB_or (by omega) (by show 0 < (if 0 < as p ∧ pldS (posB as n) sh n < sh p then (1 : Int32) else 0); rw [if_pos ⟨hap, hc⟩]; decide)]
          exact hi
        · rw [if_neg hc]
          rw [posB_n (by show ¬ 0 < (if 0 < as p ∧ pldS (posB as n) sh n < sh p then (1 : Int32) else 0); rw [if_neg (fun z => hc z.2)]; decide)] at hi
          exact hi
      · have hap : ¬ 0 < as p := fun z => hb (by rw [posB_bit]; simp [hp, z])
        rw [if_neg hb, if_pos rfl]
        rw [posB_n (by show ¬ 0 < (if 0 < as p ∧ pldS (posB as n) sh n < sh p then (1 : Int32) else 0); rw [if_neg (fun z => hap z.1)]; decide)] at hi
        exact hi
    · rintro h rfl
      refine xX9_spared_15 ⟨_, rfl, ?_⟩
      rw [w2.1.1, if_neg (n_ge (by omega) (by omega) (Nat.le_refl _))]
      exact xm_pi_i hh
/-! the least rate -/
theorem sSh_stay (h : ¬ c (24 + p) = 1) : sSh tc c n y e p = 0 := by
  unfold sSh shr
  have : asd e (wgt tc c n y) p = 0 := by
    unfold asd wgt
    have hz : ¬ (p < n ∧ c (24 + p) = 1) := fun q => h q.2
    rw [if_neg hz]
    split <;> rfl
  rw [this]
  split
  · rfl
  · rw [Int32.mul_zero, Int32.zero_div]
theorem wrtB_2 (hp : p < 8) : wrtB tc c n y p 2 = gainS c y p 2 := by
  unfold wrtB wrt
  rw [sSh_stay (by rw [p_eq]; decide), p_eq, Int32.sub_zero]
  unfold gainS
  rw [p_ne (by omega), p_ne (by omega), p_ne (by omega)]
theorem m_isFree (hK : 8 < K) (hw : Mw A F n y c) (ht : TXm A F tc) (H1 : frS tc c n y → ∀ A' F', Ms A F A' F' → g 1 (HP A' L F')) (H0 : ¬ frS tc c n y → ∀ A' F', Ms A F A' F' → g 0 (HP A' L F')) : xm_Call K sX9_isFree 9 [.ref 44] (HP A L F) (xm_pi g) := by
  have hn8 := hw.1.2.1
  refine eX9_isFree (K := 8) hK ⟨_, rfl⟩ ?_
  refine xm_for (n := n) (Q := fun p h => xm_L 8 sX9_isFree kX9_isFree 2 [some (.ref 44), some (.int (Int32.ofNat p))] [] h (xm_pi g)) (fun p h => ∃ A' F', h = HP A' L F' ∧ Ms A F A' F' ∧ ∀ q, q < p → c (24 + q) = 1 → c (40 + q) = 1 → ¬ gainS c y q 2 < wrt tc c n y q) ?_ ?_ 0 _ (Nat.zero_le _) ⟨A, F, rfl, Ms.rf, fun r hr => absurd hr (by omega)⟩
  · rintro p h hp ⟨A1, F1, rfl, s1, h1⟩ ih
    have w1 := s1.mw hw
    obtain ⟨b0, b1, b2, b3, b4, b5, b6⟩ := w1.2.1 p (by omega)
    have tt : ∀ {B G}, Ms A F B G → TXm B G tc := fun s => ht.to s.1 (by simp) (s.2.2 30 (by omega))
    have step : ∀ B G, Ms A F B G → (c (24 + p) = 1 → c (40 + p) = 1 → ¬ gainS c y p 2 < wrt tc c n y p) → xm_L 8 sX9_isFree kX9_isFree 2 [some (.ref 44), some (.int (Int32.ofNat p + 1))] [] (HP B L G) (xm_pi g) := by
      intro B G s hc
      rw [n_succ]
      refine ih _ ⟨B, G, rfl, s, fun q hq => ?_⟩
      by_cases hqp : q = p
      · subst hqp; exact hc
      · exact h1 q (by omega)
    refine xX9_isFree_2 ⟨_, rfl, ?_⟩
    rw [w1.1.1, if_pos ((n_lt (by omega) (by omega)).mpr hp)]
    refine ⟨_, rfl, _, ln_66 (by omega), ?_⟩
    rw [b3]
    by_cases a1 : c (24 + p) = 1
    · rw [if_pos a1]
      refine ⟨_, rfl, _, ln_67 (by omega), ?_⟩
      rw [b5]
      by_cases a2 : c (40 + p) = 1
      · rw [if_pos a2]
        refine m_worthWith (tc := tc) (n := n) (y := y) (c := c) (by omega) w1 (tt s1) hp (fun A2 F2 s2 => ?_)
        have s12 := s1.tr s2
        refine m_worthBy (tc := tc) (n := n) (y := y) (c := c) (by omega) (s12.mw hw) (tt s12) hp (fun A3 F3 s3 => ?_)
        rw [wrtB_2 (by omega)]
        by_cases hc : gainS c y p 2 < wrt tc c n y p
        · rw [if_pos hc]; exact xm_pi_i (H0 (fun q => q p hp a1 a2 hc) A3 F3 (s12.tr s3))
        · rw [if_neg hc]; exact step A3 F3 (s12.tr s3) (fun _ _ => hc)
      · rw [if_neg a2]; exact step A1 F1 s1 (fun _ q => absurd q a2)
    · rw [if_neg a1]; exact step A1 F1 s1 (fun q _ => absurd q a1)
  · rintro h ⟨A1, F1, rfl, s1, h1⟩
    refine xX9_isFree_2 ⟨_, rfl, ?_⟩
    rw [(s1.mw hw).1.1, if_neg (n_ge (by omega) (by omega) (Nat.le_refl _))]
    exact xm_pi_i (H1 h1 A1 F1 s1)
theorem mw_rate (hw : Mw A F n y c) : Mw A (va_up F 44 (va_up (F 44) 38 v)) n y (upd c 65 v) := by
  obtain ⟨⟨a1, a2, a3, a4, a5, a6, a7⟩, a8, a9⟩ := hw
  refine ⟨⟨a1, a2, a3, a4, by rw [p_eq]; rfl, by rw [p_ne (by have := Nat.mod_lt y (show 0 < 8 by omega); omega)]; exact a6, by rw [p_ne (by omega)]; exact a7⟩, fun q hq => ?_, fun q hq => by rw [p_ne (by omega)]; exact a9 q hq⟩
  rw [p_ne (by omega), p_ne (by omega), p_ne (by omega), p_ne (by omega), p_ne (by omega), p_ne (by omega), p_ne (by omega)]
  exact a8 q hq
theorem r_freeRate (hK : 9 < K) (hM : ModOk A F tc n y c) (H : ∀ A' F', Mq A F A' F' n → (∀ v, 1 ≤ v → v ≤ 99 → (∀ u, 1 ≤ u → u < v → ¬ frV tc c n y u) → frV tc c n y v → g (Int32.ofNat v) (HP A' L F')) ∧ ((∀ v, 1 ≤ v → v ≤ 99 → ¬ frV tc c n y v) → g (-2) (HP A' L F'))) : xm_Call K sX9_freeRate 9 [.ref 44] (HP A L F) (xm_pi g) := by
  have hn8 := hM.1.1.2.1
  refine eX9_freeRate (K := 9) hK ⟨_, rfl⟩ (m_layNow (by omega) hM.1 (fun A0 F0 q0 _ w0 => ?_))
  have key := xm_for (n := 99) (Q := fun k h => xm_L 9 sX9_freeRate kX9_freeRate 4 [some (.ref 44), some (.int (Int32.ofNat (k + 1)))] [] h (xm_pi g)) (fun k h => (∃ A' F' d, h = HP A' L F' ∧ Mq A F A' F' n ∧ Mw A' F' n y d ∧ (∀ v, upd d 65 v = upd c 65 v)) ∧ ∀ u, 1 ≤ u → u < k + 1 → ¬ frV tc c n y u) ?_ ?_ 0 _ (Nat.zero_le _) ⟨⟨A0, F0, c, rfl, q0, w0, fun _ => rfl⟩, fun u h1 h2 => absurd h1 (by omega)⟩
  · exact key
  · rintro k h hk ⟨⟨A1, F1, d, rfl, q1, w1, hd⟩, h1⟩ ih
    refine xX9_freeRate_4 ?_
    rw [if_neg (show ¬ (99 : Int32) < Int32.ofNat (k + 1) from n_ge (p := 99) (by omega) (by omega) (by omega))]
    refine ⟨_, p_44_38, ?_⟩
    have w2 := mw_rate (v := Int32.ofNat (k + 1)) w1
    rw [hd] at w2
    have q2 : Mq A F A1 (va_up F1 44 (va_up (F1 44) 38 (Int32.ofNat (k + 1)))) n := ⟨q1.1, Ag.up q1.2.1 (by simp), fun k hk => by rw [u_eq, u_ne (by omega)]; exact q1.2.2.1 k hk, q1.2.2.2⟩
    refine m_isFree (tc := tc) (by omega) w2 (q2.ok hM).2 (fun hf A3 F3 s3 => ?_) (fun hf A3 F3 s3 => ?_)
    · rw [if_neg (by decide)]
      exact xm_pi_i ((H A3 F3 (q2.tr (s3.mq q2.2.2.2))).1 (k + 1) (by omega) (by omega) h1 hf)
    · rw [if_pos rfl, n_succ]
      refine ih _ ⟨⟨A3, F3, _, rfl, q2.tr (s3.mq q2.2.2.2), s3.mw w2, fun v => upd_upd _ _ _ _⟩, fun u hu1 hu2 => ?_⟩
      by_cases huk : u = k + 1
      · subst huk; exact hf
      · exact h1 u hu1 (by omega)
  · rintro h ⟨⟨A1, F1, d, rfl, q1, w1, hd⟩, h1⟩
    refine xX9_freeRate_4 ?_
    rw [if_pos (by decide)]
    exact xm_pi_i ((H A1 F1 q1).2 (fun v hv1 hv2 => h1 v hv1 (by omega)))
/-! the dearest -/
theorem dr_inv (s : Nat → Int32) : ∀ m, m ≤ 8 → (drI s m = -2 ∧ drW s m = 0) ∨ ∃ q, q < m ∧ drI s m = Int32.ofNat q ∧ drW s m = s q
  | 0, _ => Or.inl ⟨rfl, rfl⟩
  | m + 1, hm => by
    show ((if drW s m < s m then Int32.ofNat m else drI s m) = -2 ∧ (if drW s m < s m then s m else drW s m) = 0) ∨ ∃ q, q < m + 1 ∧ (if drW s m < s m then Int32.ofNat m else drI s m) = Int32.ofNat q ∧ (if drW s m < s m then s m else drW s m) = s q
    by_cases hc : drW s m < s m
    · rw [if_pos hc, if_pos hc]; exact Or.inr ⟨m, by omega, rfl, rfl⟩
    · rw [if_neg hc, if_neg hc]
      rcases dr_inv s m (by omega) with a | ⟨q, a, b⟩
      · exact Or.inl a
      · exact Or.inr ⟨q, by omega, b⟩
theorem m_dearest (hK : 2 < K) (hw : Mw A F n y c) (hr : MsR tc c n y A F) (H : g (drI (sSh tc c n y (earsOf c n)) n) (HP A L F)) : xm_Call K sX9_dearest 9 [.ref 44] (HP A L F) (xm_pi g) := by
  have hn8 := hw.1.2.1
  refine eX9_dearest (K := 2) hK ⟨_, rfl⟩ ?_
  refine xm_for (n := n) (Q := fun p h => xm_L 2 sX9_dearest kX9_dearest 4 [some (.ref 44), some (.int (drI (sSh tc c n y (earsOf c n)) p)), some (.int (Int32.ofNat p))] [] h (xm_pi g)) (fun _ h => h = HP A L F) ?_ ?_ 0 _ (Nat.zero_le _) rfl
  · rintro p h hp rfl ih
    have hi := ih _ rfl
    have e1 : drI (sSh tc c n y (earsOf c n)) (p + 1) = if drW (sSh tc c n y (earsOf c n)) p < sSh tc c n y (earsOf c n) p then Int32.ofNat p else drI (sSh tc c n y (earsOf c n)) p := rfl
    rw [e1] at hi
    refine xX9_dearest_4 ⟨_, rfl, ?_⟩
    rw [hw.1.1, if_pos ((n_lt (by omega) (by omega)).mpr hp)]
    refine m_shareOf (tc := tc) (n := n) (y := y) (c := c) (by omega) hw hr hp ?_
    rw [n_succ]
    rcases dr_inv (sSh tc c n y (earsOf c n)) p (by omega) with ⟨a, b⟩ | ⟨q, a, b, d⟩
    · rw [if_pos (by rw [a]; decide)]
      rw [b] at hi
      by_cases hc : 0 < sSh tc c n y (earsOf c n) p
      · rw [if_pos hc] at hi ⊢; exact hi
      · rw [if_neg hc] at hi ⊢; exact hi
    · rw [if_neg (by rw [b]; exact xs_nn (by omega))]
      rw [d] at hi
      rw [b] at hi ⊢
      refine m_shareOf (tc := tc) (n := n) (y := y) (c := c) (by omega) hw hr (by omega) ?_
      by_cases hc : sSh tc c n y (earsOf c n) q < sSh tc c n y (earsOf c n) p
      · rw [if_pos hc] at hi ⊢; exact hi
      · rw [if_neg hc] at hi ⊢; exact hi
  · rintro h rfl
    refine xX9_dearest_4 ⟨_, rfl, ?_⟩
    rw [hw.1.1, if_neg (n_ge (by omega) (by omega) (Nat.le_refl _))]
    exact xm_pi_i H
end MDI
