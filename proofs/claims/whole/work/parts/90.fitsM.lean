section FTM
variable {A : Nat → Nat → Int32} {L : Nat → Nat → Int64} {F : Nat → Nat → Int32} {gv : xm_H → Prop} {g : Int32 → xm_H → Prop} {w n p k j y e m r o a d u K nb km i t b s N T M : Nat} {x x1 x2 x3 x4 x5 v z B : Int32} {h : xm_H} {tc : (Nat → Int32) → Int32} {c sh : Nat → Int32} {q : Int64} {f : Nat → Int64} {P : Nat → Prop}
/-- the row, as the reference holds it -/
def RwM (A : Nat → Nat → Int32) (L : Nat → Nat → Int64) (f : Nat → Int64) (s i : Nat) : Prop := s < 6 ∧ i ≤ 60 ∧ A 78 s = Int32.ofNat i ∧ ∀ k, k < 60 → f k = L 79 (60 * s + k)
theorem r_habitBits (hK : 6 < K) {A1 F1 : Nat → Nat → Int32} (hM : ModOk A F tc n y c) (hr : RwM A L f s i) (hT : TwR f i n T) (q1 : Mq A F A1 F1 n) (w1 : Mw A1 F1 n y c) (hp : p < n) (H : ∀ A' F', Mq A F A' F' n → g (accB (ofP tc c n y f T (24 + p)) 4) (HP A' L F')) : xm_Call K sX9_habitBits 9 [.ref 44, .int (Int32.ofNat s), .int (Int32.ofNat p)] (HP A1 L F1) (xm_pi g) := by
  obtain ⟨hs, hi, h8, hL⟩ := hr
  have hn8 := w1.1.2.1
  refine eX9_habitBits (K := 6) hK ⟨_, rfl⟩ ?_
  refine xm_for (n := 4) (Q := fun m h => xm_L 6 sX9_habitBits kX9_habitBits 4 [some (.ref 44), some (.int (Int32.ofNat s)), some (.int (Int32.ofNat p)), some (.int (accB (ofP tc c n y f T (24 + p)) m)), some (.int (Int32.ofNat m))] [] h (xm_pi g)) (fun m h => ∃ A' F' v, h = HP A' L F' ∧ Mq A F A' F' n ∧ Mw A' F' n y (upd c (24 + p) v)) ?_ ?_ 0 _ (Nat.zero_le _) ⟨A1, F1, c (24 + p), rfl, q1, by rw [upd_same]; exact w1⟩
  · rintro m h hm ⟨A2, F2, v, rfl, q2, w2⟩ ih
    refine xX9_habitBits_4 ?_
    rw [if_pos (show Int32.ofNat m < (4 : Int32) from (n_lt (q := 4) (by omega) (by omega)).mpr hm), n_succ]
    have w3 := mw_habit (x := Int32.ofNat m) w2 hp
    rw [upd_upd] at w3
    have q3 : Mq A F (va_up A2 66 (upd (A2 66) p (Int32.ofNat m))) F2 n := ⟨Ag.up q2.1 (by simp), q2.2.1, q2.2.2.1, q2.2.2.2.hab hp⟩
    refine ⟨_, rfl, _, sn_66 (by omega), m_wrong2 (tc := tc) (by omega) w3 (q3.ok hM).2 hs hi (by rw [q3.1 78 (by simp)]; exact h8) hL hT (fun A4 F4 s4 v4 hv => ?_)⟩
    have st : ∃ A' F' v, HP A4 L F4 = HP A' L F' ∧ Mq A F A' F' n ∧ Mw A' F' n y (upd c (24 + p) v) := ⟨A4, F4, _, rfl, q3.tr (s4.mq q3.2.2.2), s4.mw w3⟩
    by_cases h0 : v4 < 0
    · rw [if_pos h0, ← acc_t (P := ofP tc c n y f T (24 + p)) (hv.mp h0)]
      exact ih _ st
    · rw [if_neg h0, ← acc_f (P := ofP tc c n y f T (24 + p)) (fun z => h0 (hv.mpr z))]
      exact ih _ st
  · rintro h ⟨A2, F2, v, rfl, q2, w2⟩
    refine xX9_habitBits_4 ?_
    rw [if_neg (by decide)]
    exact xm_pi_i (H A2 F2 q2)
theorem mw_kind (hw : Mw A F n y c) (hp : p < 8) : Mw (va_up A 49 (upd (A 49) p x)) F n y (upd c (32 + p) x) := by
  obtain ⟨⟨a1, a2, a3, a4, a5, a6, a7⟩, a8, a9⟩ := hw
  refine ⟨⟨a1, a2, a3, a4, by rw [p_ne (by omega)]; exact a5, by rw [p_ne (by omega)]; exact a6, by rw [u_ne (by omega), p_ne (by omega)]; exact a7⟩, fun q hq => ?_, fun q hq => ?_⟩
  · obtain ⟨b0, b1, b2, b3, b4, b5, b6⟩ := a8 q hq
    rw [u_ne (by omega), u_ne (by omega), u_ne (by omega), u_ne (by omega), u_eq, u_ne (by omega), u_ne (by omega)]
    refine ⟨by rw [p_ne (by omega)]; exact b0, by rw [p_ne (by omega)]; exact b1, by rw [p_ne (by omega)]; exact b2, by rw [p_ne (by omega)]; exact b3, ?_, by rw [p_ne (by omega)]; exact b5, by rw [p_ne (by omega)]; exact b6⟩
    by_cases hqp : q = p
    · subst hqp; rw [p_eq, p_eq]
    · rw [p_ne hqp, p_ne (by omega)]; exact b4
  · by_cases hqn : q < 8
    · rw [p_ne (by omega)]; exact a9 q hq
    · rw [p_ne (by omega)]; exact a9 q hq
/-- as Mq, but for the kinds -/
def Mk (A F A' F' : Nat → Nat → Int32) (n p : Nat) (v : Int32) : Prop := Ag [49, 64, 65, 66, 67, 68, 69, 70, 71] A A' ∧ A' 49 = upd (A 49) p v ∧ Ag [44] F F' ∧ (∀ k, k < 36 ∨ 43 < k → F' 44 k = F 44 k) ∧ Mz A' n
theorem r_kindBits (hK : 6 < K) {A1 F1 : Nat → Nat → Int32} (hM : ModOk A F tc n y c) (hr : RwM A L f s i) (hT : TwR f i n T) (q1 : Mq A F A1 F1 n) (w1 : Mw A1 F1 n y c) (hp : p < n) (H : ∀ A' F', Mq A F A' F' n → g (accB (ofP tc c n y f T (32 + p)) 5) (HP A' L F')) : xm_Call K sX9_kindBits 9 [.ref 44, .int (Int32.ofNat s), .int (Int32.ofNat p)] (HP A1 L F1) (xm_pi g) := by
  obtain ⟨hs, hi, h8, hL⟩ := hr
  have hn8 := w1.1.2.1
  refine eX9_kindBits (K := 6) hK ⟨_, rfl⟩ ⟨_, rfl, _, ln_49 (by omega), ?_⟩
  rw [q1.1 49 (by simp)]
  refine xm_for (n := 5) (Q := fun m h => xm_L 6 sX9_kindBits kX9_kindBits 9 [some (.ref 44), some (.int (Int32.ofNat s)), some (.int (Int32.ofNat p)), some (.int (A 49 p)), some (.int (accB (ofP tc c n y f T (32 + p)) m)), some (.int (Int32.ofNat m))] [] h (xm_pi g)) (fun m h => ∃ A' F' v, h = HP A' L F' ∧ Mk A F A' F' n p v ∧ Mw A' F' n y (upd c (32 + p) v)) ?_ ?_ 0 _ (Nat.zero_le _) ?_
  · rintro m h hm ⟨A2, F2, v, rfl, ⟨k1, k2, k3, k4, k5⟩, w2⟩ ih
    refine xX9_kindBits_9 ?_
    rw [if_pos (show Int32.ofNat m < (5 : Int32) from (n_lt (q := 5) (by omega) (by omega)).mpr hm), n_succ]
    have w3 := mw_kind (x := Int32.ofNat m) w2 (show p < 8 by omega)
    rw [upd_upd] at w3
    have k1' : Ag [49, 64, 65, 66, 67, 68, 69, 70, 71] A (va_up A2 49 (upd (A2 49) p (Int32.ofNat m))) := Ag.up k1 (by simp)
    refine ⟨_, rfl, _, sn_49 (by omega), m_wrong2 (tc := tc) (by omega) w3 (hM.2.to k1' (by simp) (k4 30 (by omega))) hs hi (by rw [k1' 78 (by simp)]; exact h8) hL hT (fun A4 F4 s4 v4 hv => ?_)⟩
    have st : ∃ A' F' v, HP A4 L F4 = HP A' L F' ∧ Mk A F A' F' n p v ∧ Mw A' F' n y (upd c (32 + p) v) := by
      refine ⟨A4, F4, Int32.ofNat m, rfl, ⟨Ag.tr k1' (s4.1.mono (fun k hk => by simp at hk ⊢; omega)), ?_, Ag.tr k3 s4.2.1, fun k hk => (s4.2.2 k (by omega)).trans (k4 k hk), ?_⟩, s4.mw w3⟩
      · rw [s4.1 49 (by simp), u_eq, k2, upd_upd]
      · intro q b1 b2
        rw [s4.1 66 (by simp), s4.1 67 (by simp), s4.1 68 (by simp), s4.1 69 (by simp)]
        exact k5 q b1 b2
    by_cases h0 : v4 < 0
    · rw [if_pos h0, ← acc_t (P := ofP tc c n y f T (32 + p)) (hv.mp h0)]
      exact ih _ st
    · rw [if_neg h0, ← acc_f (P := ofP tc c n y f T (32 + p)) (fun z => h0 (hv.mpr z))]
      exact ih _ st
  · rintro h ⟨A2, F2, v, rfl, ⟨k1, k2, k3, k4, k5⟩, w2⟩
    refine xX9_kindBits_9 ?_
    rw [if_neg (by decide)]
    refine ⟨_, rfl, _, sn_49 (by omega), xm_pi_i (H _ F2 ⟨fun k hk => ?_, k3, k4, k5⟩)⟩
    by_cases e : k = 49
    · subst e; rw [u_eq, k2, upd_upd, upd_same]
    · rw [u_ne e]; exact k1 k (by simp at hk ⊢; omega)
  · refine ⟨A1, F1, c (32 + p), rfl, ⟨q1.1.mono (fun k hk => by simp at hk ⊢; omega), ?_, q1.2.1, q1.2.2.1, q1.2.2.2⟩, by rw [upd_same]; exact w1⟩
    have e : A 49 p = c (32 + p) := (hM.1.2.1 p (by omega)).2.2.2.2.1
    rw [← e, upd_same]
    exact q1.1 49 (by simp)
theorem n_zero (h : k < 1000) : Int32.ofNat k = 0 ↔ k = 0 := n_eq (q := 0) (by omega) (by omega)
theorem r_snowsOf (hK : 6 < K) {A1 F1 : Nat → Nat → Int32} (hM : ModOk A F tc n y c) (hr : RwM A L f s i) (hT : TwR f i n T) (q1 : Mq A F A1 F1 n) (w1 : Mw A1 F1 n y c) (H : ∀ A' F', Mq A F A' F' n → g (resS x (ofP tc c n y f T (56 + y % 8)) 100) (HP A' L F')) : xm_Call K sX9_snowsOf 9 [.ref 44, .int (Int32.ofNat s), .int x] (HP A1 L F1) (xm_pi g) := by
  obtain ⟨hs, hi, h8, hL⟩ := hr
  refine eX9_snowsOf (K := 6) hK ⟨_, rfl⟩ ?_
  refine xm_for (n := 100) (Q := fun m h => xm_L 6 sX9_snowsOf kX9_snowsOf 6 [some (.ref 44), some (.int (Int32.ofNat s)), some (.int x), some (.int (Int32.ofNat (cR (ofP tc c n y f T (56 + y % 8)) m))), some (.int (frsB (ofP tc c n y f T (56 + y % 8)) m)), some (.int (Int32.ofNat m))] [] h (xm_pi g)) (fun m h => ∃ A' F', h = HP A' L F' ∧ Mq A F A' F' n ∧ Mx A' F' n y c) ?_ ?_ 0 _ (Nat.zero_le _) ⟨A1, F1, rfl, q1, Mx.of w1⟩
  · rintro m h hm ⟨A2, F2, rfl, q2, w2⟩ ih
    have hc := cR_le (P := ofP tc c n y f T (56 + y % 8)) m
    refine xX9_snowsOf_6 ?_
    rw [if_neg (show ¬ (99 : Int32) < Int32.ofNat m from n_ge (p := 99) (by omega) (by omega) (by omega)), n_succ m]
    have w3 := w2 (Int32.ofNat m)
    have q3 : Mq A F A2 (va_up F2 44 (va_up (F2 44) 36 (Int32.ofNat m))) n := q2.tr ⟨Ag.rf, Ag.up Ag.rf (by simp), fun k hk => by rw [u_eq, u_ne (by omega)], q2.2.2.2⟩
    refine ⟨_, p_44_36, m_wrong2 (tc := tc) (by omega) w3 (q3.ok hM).2 hs hi (by rw [q3.1 78 (by simp)]; exact h8) hL hT (fun A4 F4 s4 v4 hv => ?_)⟩
    have st : ∃ A' F', HP A4 L F4 = HP A' L F' ∧ Mq A F A' F' n ∧ Mx A' F' n y c := by
      refine ⟨A4, F4, rfl, q3.tr (s4.mq q3.2.2.2), fun v => ?_⟩
      have := Mx.of (s4.mw w3) v
      rw [upd_upd] at this
      exact this
    by_cases h0 : v4 < 0
    · have hP : ofP tc c n y f T (56 + y % 8) m := hv.mp h0
      rw [if_pos h0, n_succ, ← cR_t (P := ofP tc c n y f T (56 + y % 8)) hP]
      by_cases hz : cR (ofP tc c n y f T (56 + y % 8)) m = 0
      · rw [if_pos ((n_zero (by omega)).mpr hz)]
        have := ih _ st
        rw [frs_t hP hz] at this
        exact this
      · rw [if_neg (fun q => hz ((n_zero (by omega)).mp q))]
        have := ih _ st
        rw [frs_n (fun q => hz q.2)] at this
        exact this
    · have hP : ¬ ofP tc c n y f T (56 + y % 8) m := fun z => h0 (hv.mpr z)
      rw [if_neg h0]
      have := ih _ st
      rw [frs_n (fun q => hP q.1), cR_f hP] at this
      exact this
  · rintro h ⟨A2, F2, rfl, q2, w2⟩
    refine xX9_snowsOf_6 ?_
    rw [if_pos (by decide)]
    have := H A2 F2 q2
    unfold resS at this
    by_cases h1 : x = 0
    · rw [if_pos h1] at this ⊢; exact xm_pi_i this
    · rw [if_neg h1] at this ⊢; exact xm_pi_i this
theorem r_earsOf (hK : 6 < K) {A1 F1 : Nat → Nat → Int32} (hM : ModOk A F tc n y c) (hr : RwM A L f s i) (hT : TwR f i n T) (q1 : Mq A F A1 F1 n) (w1 : Mw A1 F1 n y c) (H : ∀ A' F', Mq A F A' F' n → g (resS x (erP tc c n y f T) (2 ^ n)) (HP A' L F')) : xm_Call K sX9_earsOf 9 [.ref 44, .int (Int32.ofNat s), .int x] (HP A1 L F1) (xm_pi g) := by
  obtain ⟨hs, hi, h8, hL⟩ := hr
  have hn8 := w1.1.2.1
  have h256 := (n_shl8 n hn8).2
  have hpos : 0 < 2 ^ n := Nat.pow_pos (by omega)
  refine eX9_earsOf (K := 6) hK ⟨_, rfl⟩ ?_
  refine xm_for (n := 2 ^ n) (Q := fun m h => xm_L 6 sX9_earsOf kX9_earsOf 6 [some (.ref 44), some (.int (Int32.ofNat s)), some (.int x), some (.int (Int32.ofNat (cR (erP tc c n y f T) m))), some (.int (frsB (erP tc c n y f T) m)), some (.int (Int32.ofNat m)), none] [] h (xm_pi g)) (fun m h => ∃ A' F' d, h = HP A' L F' ∧ Mq A F A' F' n ∧ Mw A' F' n y d ∧ ∀ k, ¬ (40 ≤ k ∧ k < 40 + n) → d k = c k) ?_ ?_ 0 _ (Nat.zero_le _) ⟨A1, F1, c, rfl, q1, w1, fun _ _ => rfl⟩
  · rintro m h hm ⟨A2, F2, d, rfl, q2, w2, hd⟩ ih
    have hc := cR_le (P := erP tc c n y f T) m
    refine xX9_earsOf_6 (m_everybody (by omega) w2 ?_)
    rw [if_neg (n_ge (by omega) (by omega) (by omega))]
    refine xm_for (n := n) (Q := fun p h => xm_L 6 sX9_earsOf kX9_earsOf 12 [some (.ref 44), some (.int (Int32.ofNat s)), some (.int x), some (.int (Int32.ofNat (cR (erP tc c n y f T) m))), some (.int (frsB (erP tc c n y f T) m)), some (.int (Int32.ofNat m)), some (.int (Int32.ofNat p))] [] h (xm_pi g)) (fun p h => ∃ A' F' d, h = HP A' L F' ∧ Mq A F A' F' n ∧ Mw A' F' n y d ∧ (∀ k, ¬ (40 ≤ k ∧ k < 40 + n) → d k = c k) ∧ ∀ q, q < p → d (40 + q) = if m.testBit q = true then 1 else 0) ?_ ?_ 0 _ (Nat.zero_le _) ⟨A2, F2, d, rfl, q2, w2, hd, fun q hq => absurd hq (by omega)⟩
    · clear q2 w2 hd d A2 F2
      rintro p h hp ⟨A2, F2, d, rfl, q2, w2, hd, hb⟩ ih2
      refine xX9_earsOf_12 ⟨_, rfl, ?_⟩
      rw [w2.1.1, if_pos ((n_lt (by omega) (by omega)).mpr hp), n_succ p]
      have st : ∀ v, (v = 0 ∨ v = 1) → v = (if m.testBit p = true then (1 : Int32) else 0) → xm_L 6 sX9_earsOf kX9_earsOf 12 [some (.ref 44), some (.int (Int32.ofNat s)), some (.int x), some (.int (Int32.ofNat (cR (erP tc c n y f T) m))), some (.int (frsB (erP tc c n y f T) m)), some (.int (Int32.ofNat m)), some (.int (Int32.ofNat (p + 1)))] [] (HP (va_up A2 67 (upd (A2 67) p v)) L F2) (xm_pi g) := by
        intro v hv ev
        refine ih2 _ ⟨_, _, _, rfl, ⟨Ag.up q2.1 (by simp), q2.2.1, q2.2.2.1, fun q b1 b2 => ?_⟩, mw_heard w2 hp hv, fun k hk => ?_, fun q hq => ?_⟩
        · rw [u_ne (by omega), u_eq, u_ne (by omega), u_ne (by omega), p_ne (by omega)]
          exact q2.2.2.2 q b1 b2
        · rw [p_ne (by omega)]; exact hd k hk
        · by_cases e : q = p
          · subst e; rw [p_eq]; exact ev
          · rw [p_ne (by omega)]; exact hb q (by omega)
      refine ⟨_, rfl, m_has (by omega) (by omega) (by omega) ?_⟩
      by_cases ht : m.testBit p = true
      · rw [if_pos ht, if_neg (by decide)]
        exact ⟨_, sn_67 (by omega), st 1 (Or.inr rfl) (by rw [if_pos ht])⟩
      · rw [if_neg ht, if_pos rfl]
        exact ⟨_, sn_67 (by omega), st 0 (Or.inl rfl) (by rw [if_neg ht])⟩
    · clear q2 w2 hd d A2 F2
      rintro h ⟨A2, F2, d, rfl, q2, w2, hd, hb⟩
      refine xX9_earsOf_12 ⟨_, rfl, ?_⟩
      rw [w2.1.1, if_neg (n_ge (by omega) (by omega) (Nat.le_refl _)), n_succ m]
      have ed : d = hE c m n := by
        funext k
        unfold hE
        by_cases hk : 40 ≤ k ∧ k < 40 + n
        · rw [if_pos hk]
          have := hb (k - 40) (by omega)
          rw [show 40 + (k - 40) = k by omega] at this
          exact this
        · rw [if_neg hk]; exact hd k hk
      subst ed
      refine m_wrong2 (tc := tc) (by omega) w2 (q2.ok hM).2 hs hi (by rw [q2.1 78 (by simp)]; exact h8) hL hT (fun A4 F4 s4 v4 hv => ?_)
      rw [hE_ears hm, show sSh tc (hE c m n) n y m = sSh tc c n y m from funext fun q => hE_sSh hn8] at hv
      have st : ∃ A' F' d, HP A4 L F4 = HP A' L F' ∧ Mq A F A' F' n ∧ Mw A' F' n y d ∧ ∀ k, ¬ (40 ≤ k ∧ k < 40 + n) → d k = c k := ⟨A4, F4, _, rfl, q2.tr (s4.mq q2.2.2.2), s4.mw w2, hd⟩
      by_cases h0 : v4 < 0
      · have hP : erP tc c n y f T m := hv.mp h0
        rw [if_pos h0, n_succ, ← cR_t (P := erP tc c n y f T) hP]
        by_cases hz : cR (erP tc c n y f T) m = 0
        · rw [if_pos ((n_zero (by omega)).mpr hz)]
          have := ih _ st
          rw [frs_t hP hz] at this
          exact this
        · rw [if_neg (fun q => hz ((n_zero (by omega)).mp q))]
          have := ih _ st
          rw [frs_n (fun q => hz q.2)] at this
          exact this
      · have hP : ¬ erP tc c n y f T m := fun z => h0 (hv.mpr z)
        rw [if_neg h0]
        have := ih _ st
        rw [frs_n (fun q => hP q.1), cR_f hP] at this
        exact this
  · rintro h ⟨A2, F2, d, rfl, q2, w2, hd⟩
    refine xX9_earsOf_6 (m_everybody (by omega) w2 ?_)
    rw [if_pos ((n_lt (by omega) (by omega)).mpr (by omega))]
    have := H A2 F2 q2
    unfold resS at this
    by_cases h1 : x = 0
    · rw [if_pos h1] at this ⊢; exact xm_pi_i this
    · rw [if_neg h1] at this ⊢; exact xm_pi_i this
end FTM
