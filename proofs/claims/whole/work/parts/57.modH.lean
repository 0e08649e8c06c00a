section MDH
variable {A : Nat → Nat → Int32} {L : Nat → Nat → Int64} {F : Nat → Nat → Int32} {g : Int32 → xm_H → Prop} {gv : xm_H → Prop} {w n p k j y e m K : Nat} {x v z : Int32} {h : xm_H} {tc : (Nat → Int32) → Int32} {c : Nat → Int32}
theorem n_ge {p q : Nat} (hp : p < 2147483648) (hq : q < 2147483648) (h : q ≤ p) : ¬ Int32.ofNat p < Int32.ofNat q := fun z => absurd ((n_lt hp hq).mp z) (by omega)
theorem m_in2 (hK : 0 < K) {x0 x1 x2 : Int32} (H : ¬ x0 < x1 → ¬ x2 < x0 → g 1 h) (H2 : (x0 < x1 ∨ x2 < x0) → g 0 h) : xm_Call K sX9_in 99 [.int x0, .int x1, .int x2] h (xm_pi g) := by
  refine m_in hK ?_
  by_cases h1 : x0 < x1
  · rw [if_pos h1]; exact H2 (Or.inl h1)
  · rw [if_neg h1]
    by_cases h2 : x2 < x0
    · rw [if_pos h2]; exact H2 (Or.inr h2)
    · rw [if_neg h2]; exact H h1 h2
theorem i_lt2 {x : Int32} (h0 : ¬ x < 0) : x < 2 ↔ (x = 0 ∨ x = 1) := by
  have t0 : (0 : Int32).toInt = 0 := rfl
  have t1 : (1 : Int32).toInt = 1 := rfl
  have t2 : (2 : Int32).toInt = 2 := rfl
  constructor
  · intro h
    rw [Int32.lt_iff_toInt_lt] at h0 h
    rcases (show x.toInt = 0 ∨ x.toInt = 1 by omega) with h2 | h2
    · exact Or.inl (Int32.toInt_inj.mp (h2.trans t0.symm))
    · exact Or.inr (Int32.toInt_inj.mp (h2.trans t1.symm))
  · rintro (rfl | rfl) <;> decide
/-! years, the snows as they are -/
theorem yrS_at (hn : n ≤ 8) (hk : k < 8 ∨ (24 ≤ k ∧ k < 64) ∨ 64 < k) : yrS tc c n y k = c k := by
  unfold yrS; rw [p_ne (by omega)]; exact yrC_at _ _ _ _ _ hn (by omega)
theorem yCs_at (hn : n ≤ 8) (hk : k < 8 ∨ (24 ≤ k ∧ k < 64) ∨ 64 < k) : ∀ m, yCs tc c n y m k = c k
  | 0 => rfl
  | m + 1 => by show yrS tc (yCs tc c n y m) n (yY y m) k = c k; rw [yrS_at hn hk, yCs_at hn hk m]
theorem yCs_Rng (hn : n ≤ 8) (hR : Rng c) : ∀ m, Rng (yCs tc c n y m)
  | 0 => hR
  | m + 1 => yrS_Rng (yCs_Rng hn hR m) hn
theorem m_yearT {A1 F1 : Nat → Nat → Int32} (hK : 5 < K) (ht : TXm A F tc) (hS : ∀ j, j < 8 → A 52 j = c (56 + j)) (hR : Rng c) (q1 : Mq A F A1 F1 n) (w1 : Mw A1 F1 n (yY y m) (yCs tc c n y m))
    (H : ∀ A' F', Mq A F A' F' n → Mw A' F' n (yY y (m + 1)) (yCs tc c n y (m + 1)) → F' 44 42 = F1 44 42 + sPaid tc (yCs tc c n y m) n (yY y m) (earsOf (yCs tc c n y m) n) → F' 44 43 = F1 44 43 + lackS (yCs tc c n y m) (yY y m) (sSh tc (yCs tc c n y m) n (yY y m) (earsOf (yCs tc c n y m) n)) n → gv (HP A' L F')) : xm_Call K sX9_goYear 9 [.ref 44] (HP A1 L F1) (xm_pv gv) := by
  have hn8 := w1.1.2.1
  refine m_goYear (tc := tc) hK w1 (ht.to q1.1 (by simp) (q1.2.2.1 30 (by omega))) q1.2.2.2 (yCs_Rng hn8 hR m) (fun A2 F2 q2 _ w2 e1 e2 => H A2 F2 (q1.tr q2) (w2 _ (fun k _ _ => rfl) ?_) e1 e2)
  rw [q1.1 52 (by simp), hS _ (Nat.mod_lt _ (by omega))]
  exact yCs_at hn8 (by omega) (m + 1)
theorem m_goYears {A1 F1 : Nat → Nat → Int32} (hK : 6 < K) (hm : m ≤ 60) (ht : TXm A F tc) (hS : ∀ j, j < 8 → A 52 j = c (56 + j)) (hR : Rng c) (q1 : Mq A F A1 F1 n) (w1 : Mw A1 F1 n y c)
    (H : ∀ A' F', Mq A F A' F' n → Mw A' F' n (yY y m) (yCs tc c n y m) → F' 44 42 = paidY tc c n y m → F' 44 43 = lackY tc c n y m → gv (HP A' L F')) : xm_Call K sX9_goYears 9 [.ref 44, .int (Int32.ofNat m)] (HP A1 L F1) (xm_pv gv) := by
  refine eX9_goYears (K := 6) hK ⟨_, rfl⟩ ⟨_, p_44_42, _, p_44_43, ?_⟩
  refine xm_for (n := m) (Q := fun p h => xm_L 6 sX9_goYears kX9_goYears 8 [some (.ref 44), some (.int (Int32.ofNat m)), some (.int (Int32.ofNat p))] [] h (xm_pv gv)) (fun p h => ∃ A' F', h = HP A' L F' ∧ Mq A F A' F' n ∧ Mw A' F' n (yY y p) (yCs tc c n y p) ∧ F' 44 42 = paidY tc c n y p ∧ F' 44 43 = lackY tc c n y p) ?_ ?_ 0 _ (Nat.zero_le _) ⟨_, _, rfl, ⟨q1.1, Ag.up (Ag.up q1.2.1 (by simp)) (by simp), fun k hk => ?_, q1.2.2.2⟩, ?_, rfl, rfl⟩
  · rintro p h hp ⟨A2, F2, rfl, q2, w2, e1, e2⟩ ih
    refine xX9_goYears_8 ?_
    rw [if_pos ((n_lt (by omega) (by omega)).mpr hp)]
    refine m_yearT (tc := tc) (by omega) ht hS hR q2 w2 (fun A3 F3 q3 w3 d1 d2 => ?_)
    rw [n_succ]
    exact ih _ ⟨A3, F3, rfl, q3, w3, by rw [d1, e1]; rfl, by rw [d2, e2]; rfl⟩
  · rintro h ⟨A2, F2, rfl, q2, w2, e1, e2⟩
    refine xX9_goYears_8 ?_
    rw [if_neg (n_ge (by omega) (by omega) (Nat.le_refl _))]
    exact xm_pv_i (H A2 F2 q2 w2 e1 e2)
  · rw [u_eq, u_ne (by omega), u_eq, u_ne (by omega)]; exact q1.2.2.1 k hk
  · obtain ⟨⟨a1, a2, a3, a4, a5, a6, a7⟩, a8, a9⟩ := w1
    exact ⟨⟨a1, a2, a3, a4, a5, a6, a7⟩, a8, a9⟩
theorem r_later (hK : 7 < K) (hM : ModOk A F tc n y c) (hR : Rng c) {x1 x2 x3 : Int32} (H : okL n x1 x2 x3 → ∀ m p, m ≤ 60 → p < 8 → x1 = Int32.ofNat m → x2 = Int32.ofNat p → ∀ A' F', Mq A F A' F' n → g (latS tc c n y m p x3) (HP A' L F')) (H2 : ¬ okL n x1 x2 x3 → g (-1) (HP A L F)) : xm_Call K sX9_later 9 [.ref 44, .int x1, .int x2, .int x3] (HP A L F) (xm_pi g) := by
  have hn8 := hM.1.1.2.1
  refine eX9_later (K := 7) hK ⟨_, rfl⟩ (m_in2 (by omega) (fun a1 a2 => ?_) (fun q => ?_))
  · rw [if_neg (by decide)]
    refine m_in2 (by omega) (fun a3 a4 => ?_) (fun q => ?_)
    · rw [if_neg (by decide)]
      obtain ⟨m, hm, hxm⟩ := n_of60 a1 a2
      by_cases a5 : x3 < 2
      · rw [if_pos a5]
        have hx := (i_lt2 a3).mp a5
        refine m_isOne (n := n) (by omega) hM.1.1.1 hn8 (fun p hp he => ?_) (fun q => ?_)
        · rw [if_neg (by decide)]
          have hok : okL n x1 x2 x3 := ⟨a1, a2, a3, a4, Or.inl ⟨hx, by rw [he]; exact xs_nn (by omega), by rw [he]; exact (n_lt (by omega) (by omega)).mpr hp⟩⟩
          rw [hxm]
          refine m_layNow (by omega) hM.1 (fun A1 F1 q1 _ w1 => m_goYears (tc := tc) (by omega) hm hM.2 hM.1.2.2.1 hR q1 w1 (fun A2 F2 q2 w2 d1 d2 => ?_))
          have hh := H hok m p hm (by omega) hxm he A2 F2 q2
          unfold latS at hh
          obtain ⟨b0, b1, b2, b3, b4, b5, b6⟩ := w2.2.1 p (by omega)
          rw [he]
          rcases hx with h0 | h1
          · rw [if_pos h0] at hh ⊢
            refine ⟨_, rfl, _, ln_68 (by omega), xm_pi_i ?_⟩
            rw [b1]; exact hh
          · have h0 : ¬ x3 = 0 := by rw [h1]; decide
            rw [if_neg h0, if_pos h1] at hh ⊢
            refine ⟨_, rfl, _, ln_69 (by omega), xm_pi_i ?_⟩
            rw [b2]; exact hh
        · rw [if_pos rfl]
          refine xm_pi_i (H2 (fun ok => ?_))
          rcases ok.2.2.2.2 with ⟨_, b1, b2⟩ | ⟨b1, _⟩
          · exact q.elim b1 (fun z => z b2)
          · exact b1 hx
      · rw [if_neg a5]
        have hx : ¬ (x3 = 0 ∨ x3 = 1) := fun q => a5 ((i_lt2 a3).mpr q)
        have h0 : ¬ x3 = 0 := fun q => hx (Or.inl q)
        have h1 : ¬ x3 = 1 := fun q => hx (Or.inr q)
        by_cases a6 : x2 = 0
        · rw [if_pos a6, hxm]
          refine m_layNow (by omega) hM.1 (fun A1 F1 q1 _ w1 => m_goYears (tc := tc) (by omega) hm hM.2 hM.1.2.2.1 hR q1 w1 (fun A2 F2 q2 w2 d1 d2 => ?_))
          have hh := H ⟨a1, a2, a3, a4, Or.inr ⟨hx, a6⟩⟩ m 0 hm (by omega) hxm a6 A2 F2 q2
          unfold latS at hh
          rw [if_neg h0, if_neg h1] at hh ⊢
          by_cases h2 : x3 = 2
          · rw [if_pos h2] at hh ⊢
            refine ⟨_, rfl, xm_pi_i ?_⟩
            rw [d1]; exact hh
          · rw [if_neg h2] at hh ⊢
            by_cases h3 : x3 = 3
            · rw [if_pos h3] at hh ⊢
              refine ⟨_, rfl, xm_pi_i ?_⟩
              rw [d2]; exact hh
            · rw [if_neg h3] at hh ⊢
              exact m_theBill (by omega) w2 (xm_pi_i hh)
        · rw [if_neg a6]
          refine xm_pi_i (H2 (fun ok => ?_))
          rcases ok.2.2.2.2 with ⟨b1, _⟩ | ⟨_, b1⟩
          · exact hx b1
          · exact a6 b1
    · rw [if_pos rfl]
      exact xm_pi_i (H2 (fun ok => q.elim ok.2.2.1 ok.2.2.2.1))
  · rw [if_pos rfl]
    exact xm_pi_i (H2 (fun ok => q.elim ok.1 ok.2.1))
theorem r_broke (hK : 6 < K) (hM : ModOk A F tc n y c) (hR : Rng c) (H : ∀ p, p < n → x = Int32.ofNat p → ∀ A' F', Mq A F A' F' n → (∀ k, k ≤ 60 → (∀ j, j < k → ¬ prsS tc c n y p j = 0) → prsS tc c n y p k = 0 → g (Int32.ofNat k) (HP A' L F')) ∧ ((∀ k, k ≤ 60 → ¬ prsS tc c n y p k = 0) → g (-2) (HP A' L F'))) (H2 : (x < 0 ∨ ¬ x < Int32.ofNat n) → g (-1) (HP A L F)) : xm_Call K sX9_broke 9 [.ref 44, .int x] (HP A L F) (xm_pi g) := by
  have hn8 := hM.1.1.2.1
  refine eX9_broke (K := 6) hK ⟨_, rfl⟩ (m_isOne (n := n) (by omega) hM.1.1.1 hn8 (fun p hp he => ?_) (fun q => ?_))
  · rw [if_neg (by decide)]
    subst he
    refine m_layNow (by omega) hM.1 (fun A0 F0 q0 _ w0 => ?_)
    refine xm_for (n := 61) (Q := fun k h => xm_L 6 sX9_broke kX9_broke 10 [some (.ref 44), some (.int (Int32.ofNat p)), some (.int (Int32.ofNat k))] [] h (xm_pi g)) (fun k h => (∃ A' F', h = HP A' L F' ∧ Mq A F A' F' n ∧ Mw A' F' n (yY y k) (yCs tc c n y k)) ∧ ∀ j, j < k → ¬ prsS tc c n y p j = 0) ?_ ?_ 0 _ (Nat.zero_le _) ⟨⟨A0, F0, rfl, q0, w0⟩, fun j hj => absurd hj (by omega)⟩
    · rintro k h hk ⟨⟨A1, F1, rfl, q1, w1⟩, h1⟩ ih
      refine xX9_broke_10 ?_
      rw [if_neg (show ¬ (60 : Int32) < Int32.ofNat k from n_ge (p := 60) (by omega) (by omega) (by omega))]
      refine ⟨_, rfl, _, ln_68 (by omega), ?_⟩
      have e5 : A1 68 p = prsS tc c n y p k := (w1.2.1 p (by omega)).2.1
      rw [e5]
      by_cases h0 : prsS tc c n y p k = 0
      · rw [if_pos h0]; exact xm_pi_i ((H p hp rfl A1 F1 q1).1 k (by omega) h1 h0)
      · rw [if_neg h0]
        refine m_yearT (tc := tc) (by omega) hM.2 hM.1.2.2.1 hR q1 w1 (fun A2 F2 q2 w2 _ _ => ?_)
        rw [n_succ]
        refine ih _ ⟨⟨A2, F2, rfl, q2, w2⟩, fun j hj => ?_⟩
        by_cases hjk : j = k
        · subst hjk; exact h0
        · exact h1 j (by omega)
    · rintro h ⟨⟨A1, F1, rfl, q1, w1⟩, h1⟩
      refine xX9_broke_10 ?_
      rw [if_pos (by decide)]
      exact xm_pi_i ((H p hp rfl A1 F1 q1).2 (fun k hk => h1 k (by omega)))
  · rw [if_pos rfl]; exact xm_pi_i (H2 q)
theorem Rng.hab (hR : Rng c) (hp : p < 8) : Rng (upd c (24 + p) x) := by
  refine ⟨fun q hq => ?_, fun j hj => by rw [p_ne (by omega)]; exact hR.2.1 j hj, by rw [p_ne (by omega)]; exact hR.2.2⟩
  rw [p_ne (by omega), p_ne (by omega), p_ne (by omega)]; exact hR.1 q hq
theorem Mz.hab (hz : Mz A n) (hp : p < n) : Mz (va_up A 66 (upd (A 66) p x)) n := fun q h1 h2 => by
  obtain ⟨a, b, d, e⟩ := hz q h1 h2
  rw [u_eq, u_ne (by omega), u_ne (by omega), u_ne (by omega), p_ne (by omega)]
  exact ⟨a, b, d, e⟩
theorem m_purseWith (hK : 7 < K) (hM : ModOk A F tc n y c) (hR : Rng c) (hp : p < n) (hm : m ≤ 40) (H : ∀ A' F', Mq A F A' F' n → g (prsS tc (upd c (24 + p) x) n y p m) (HP A' L F')) : xm_Call K sX9_purseWith 9 [.ref 44, .int (Int32.ofNat p), .int x, .int (Int32.ofNat m)] (HP A L F) (xm_pi g) := by
  have hn8 := hM.1.1.2.1
  refine eX9_purseWith (K := 7) hK ⟨_, rfl⟩ (m_layNow (by omega) hM.1 (fun A1 F1 q1 _ w1 => ⟨_, rfl, _, sn_66 (by omega), ?_⟩))
  refine m_goYears (tc := tc) (A := A) (F := F) (by omega) (by omega) hM.2 (c := upd c (24 + p) x) (fun j hj => by rw [p_ne (by omega)]; exact hM.1.2.2.1 j hj) (hR.hab (by omega)) ⟨Ag.up q1.1 (by simp), q1.2.1, q1.2.2.1, q1.2.2.2.hab hp⟩ (mw_habit w1 hp) (fun A2 F2 q2 w2 _ _ => ⟨_, rfl, _, ln_68 (by omega), xm_pi_i ?_⟩)
  rw [(w2.2.1 p (by omega)).2.1]
  exact H A2 F2 q2
theorem r_thrift (hK : 8 < K) (hM : ModOk A F tc n y c) (hR : Rng c) {x1 x2 x3 : Int32} (H : okT n x1 x2 x3 → ∀ p m, p < n → m ≤ 40 → x1 = Int32.ofNat p → x2 = Int32.ofNat m → ∀ A' F', Mq A F A' F' n → g (if x3 = 0 then Int32.ofNat (bst (thrW tc c n y p m) 3) else thrW tc c n y p m (bst (thrW tc c n y p m) 3)) (HP A' L F')) (H2 : ¬ okT n x1 x2 x3 → g (-1) (HP A L F)) : xm_Call K sX9_thrift 9 [.ref 44, .int x1, .int x2, .int x3] (HP A L F) (xm_pi g) := by
  have hn8 := hM.1.1.2.1
  refine eX9_thrift (K := 8) hK ⟨_, rfl⟩ (m_isOne (n := n) (by omega) hM.1.1.1 hn8 (fun p hp he => ?_) (fun q => ?_))
  · rw [if_neg (by decide)]
    refine m_in2 (by omega) (fun a1 a2 => ?_) (fun q => ?_)
    · rw [if_neg (by decide)]
      obtain ⟨m, hm, hxm⟩ := n_of40 a1 a2
      refine m_in (by omega) ?_
      by_cases hx : x3 = 0 ∨ x3 = 1
      · rw [if_neg (fun q => (i_01.mp q) hx)]
        have hok : okT n x1 x2 x3 := ⟨⟨by rw [he]; exact xs_nn (by omega), by rw [he]; exact (n_lt (by omega) (by omega)).mpr hp⟩, a1, a2, hx⟩
        have hh := H hok p m hp hm he hxm
        rw [he, hxm]
        refine m_purseWith (by omega) hM hR hp hm (fun A1 F1 q1 => ?_)
        refine xm_for (n := 3) (Q := fun k h => xm_L 8 sX9_thrift kX9_thrift 26 [some (.ref 44), some (.int (Int32.ofNat p)), some (.int (Int32.ofNat m)), some (.int x3), some (.int (Int32.ofNat (bst (thrW tc c n y p m) k))), some (.int (thrW tc c n y p m (bst (thrW tc c n y p m) k))), some (.int (Int32.ofNat (k + 1))), none] [] h (xm_pi g)) (fun _ h => ∃ A' F', h = HP A' L F' ∧ Mq A F A' F' n) ?_ ?_ 0 _ (Nat.zero_le _) ⟨A1, F1, rfl, q1⟩
        · rintro k h hk ⟨A2, F2, rfl, q2⟩ ih
          refine xX9_thrift_26 ?_
          rw [if_pos (show Int32.ofNat (k + 1) < (4 : Int32) from (n_lt (q := 4) (by omega) (by omega)).mpr (by omega))]
          refine m_purseWith (by omega) (q2.ok hM) hR hp hm (fun A3 F3 q3 => ?_)
          have hi := ih _ ⟨A3, F3, rfl, q2.tr q3⟩
          rw [n_succ]
          show (if thrW tc c n y p m (bst (thrW tc c n y p m) k) < thrW tc c n y p m (k + 1) then _ else _)
          have hb : bst (thrW tc c n y p m) (k + 1) = if thrW tc c n y p m (bst (thrW tc c n y p m) k) < thrW tc c n y p m (k + 1) then k + 1 else bst (thrW tc c n y p m) k := rfl
          rw [hb] at hi
          split
          · next hc => rw [if_pos hc] at hi; exact hi
          · next hc => rw [if_neg hc] at hi; exact hi
        · rintro h ⟨A2, F2, rfl, q2⟩
          refine xX9_thrift_26 ?_
          rw [if_neg (by decide)]
          have h5 := hh A2 F2 q2
          by_cases h0 : x3 = 0
          · rw [if_pos h0] at h5 ⊢; exact xm_pi_i h5
          · rw [if_neg h0] at h5 ⊢; exact xm_pi_i h5
      · rw [if_pos (i_01.mpr hx)]
        exact xm_pi_i (H2 (fun ok => hx ok.2.2.2))
    · rw [if_pos rfl]
      exact xm_pi_i (H2 (fun ok => q.elim ok.2.1 ok.2.2.1))
  · rw [if_pos rfl]
    exact xm_pi_i (H2 (fun ok => q.elim ok.1.1 (fun z => z ok.1.2)))
end MDH
