section FTC
variable {A : Nat → Nat → Int32} {L : Nat → Nat → Int64} {F : Nat → Nat → Int32} {gv : xm_H → Prop} {g : Int32 → xm_H → Prop} {w n p k j y e m r o a d u K nb km i t b s N T M : Nat} {x x1 x2 x3 x4 x5 v z B : Int32} {h : xm_H} {tc : (Nat → Int32) → Int32} {c sh : Nat → Int32} {q : Int64} {f : Nat → Int64} {P : Nat → Prop}
noncomputable def accB (P : Nat → Prop) : Nat → Int32
  | 0 => 0
  | m + 1 => @ite Int32 (P m) (Classical.propDecidable _) (accB P m ||| ((1 : Int32) <<< (Int32.ofNat m &&& 31))) (accB P m)
noncomputable def frsB (P : Nat → Prop) : Nat → Int32
  | 0 => -2
  | m + 1 => @ite Int32 (P m ∧ cR P m = 0) (Classical.propDecidable _) (Int32.ofNat m) (frsB P m)
theorem acc_t (h : P m) : accB P (m + 1) = accB P m ||| ((1 : Int32) <<< (Int32.ofNat m &&& 31)) := if_pos h
theorem acc_f (h : ¬ P m) : accB P (m + 1) = accB P m := if_neg h
theorem cR_z : ∀ m, (∀ j, j < m → ¬ P j) → cR P m = 0
  | 0, _ => rfl
  | m + 1, h => by rw [cR_f (h m (by omega))]; exact cR_z m (fun j hj => h j (by omega))
theorem cR_p (hk : P k) : ∀ m, k < m → cR P m ≠ 0
  | 0, h => absurd h (by omega)
  | m + 1, h => by
    by_cases hm : P m
    · rw [cR_t hm]; omega
    · rw [cR_f hm]
      by_cases e : k = m
      · subst e; exact absurd hk hm
      · exact cR_p hk m (by omega)
theorem frs_t (h : P m) (h0 : cR P m = 0) : frsB P (m + 1) = Int32.ofNat m := if_pos ⟨h, h0⟩
theorem frs_n (h : ¬ (P m ∧ cR P m = 0)) : frsB P (m + 1) = frsB P m := if_neg h
theorem frs_first (h0 : ∀ j, j < k → ¬ P j) (hk : P k) : ∀ m, k < m → frsB P m = Int32.ofNat k
  | 0, h => absurd h (by omega)
  | m + 1, h => by
    by_cases e : k = m
    · subst e; exact frs_t hk (cR_z k h0)
    · rw [frs_n (fun q => cR_p hk m (by omega) q.2)]
      exact frs_first h0 hk m (by omega)
theorem frs_none : ∀ m, (∀ j, j < m → ¬ P j) → frsB P m = -2
  | 0, _ => rfl
  | m + 1, h => by rw [frs_n (fun q => h m (by omega) q.1)]; exact frs_none m (fun j hj => h j (by omega))
/-- on what is tried out, with the twos read -/
def TB (A F : Nat → Nat → Int32) (f : Nat → Int64) (T n y : Nat) (c : Nat → Int32) (A' F' : Nat → Nat → Int32) : Prop := Sc A F A' F' ∧ BL A' F' f T ∧ A' 4 = c ∧ WOk A' F' 3 n y
theorem TB.start (hN : NowOk A F tc n y) (bl : BL A F f T) : TB A F f T n y (A 2) (va_up A 4 (A 2)) (va_up F 3 (va_up (F 3) 1 (F 1 1))) := ⟨⟨Ag.up Ag.rf (by simp), Ag.up Ag.rf (by simp), by rw [u_eq]; exact hN.2.2.1⟩, bl.to rfl rfl rfl, u_eq, wok_th hN rfl (fun _ _ => rfl)⟩
theorem TB.set {A' F' : Nat → Nat → Int32} (hB : TB A F f T n y c A' F') (hk : k < 40 ∨ (48 ≤ k ∧ k < 64)) : TB A F f T n y (upd c k v) (va_up A' 4 (upd (A' 4) k v)) F' := by
  obtain ⟨s, b, e, a1, a2, a3, a4, a5, a6⟩ := hB
  refine ⟨⟨Ag.up s.1 (by simp), s.2.1, by rw [u_eq]; exact s.2.2.up (by omega)⟩, b.to rfl rfl rfl, by rw [u_eq, e], a1, a2, a3, a4, ?_, fun p hp => ?_⟩
  · show va_up A' 4 (upd (A' 4) k v) 4 64 = _
    rw [u_eq, p_ne (by omega)]; exact a5
  · show va_up A' 4 (upd (A' 4) k v) 4 (40 + p) = 0 ∨ va_up A' 4 (upd (A' 4) k v) 4 (40 + p) = 1
    rw [u_eq, p_ne (by omega)]; exact a6 p hp
theorem c_tryT {A' F' : Nat → Nat → Int32} (hK : 6 < K) (hN : NowOk A F tc n y) (hB : TB A F f T n y c A' F') (H : ∀ A2 F2, TB A F f T n y c A2 F2 → (∀ q, q < 8 → A2 12 q = sSh tc c n y (earsOf c n) q) → gv (HP A2 L F2)) : xm_Call K sX4_reckon 4 [.ref 5, .ref 3] (HP A' L F') (xm_pv gv) := by
  obtain ⟨s, b, e, hw⟩ := hB
  refine c_reckon (tc := tc) (n := n) (y := y) (w := 3) hK hw (s.now hN).2.1 (fun A2 F2 a2 f2 _ rk => H A2 F2 ⟨s.tr ⟨a2.mono (fun k hk => by simp at hk ⊢; omega), f2.mono (fun k hk => by simp at hk ⊢; omega), by rw [a2 4 (by simp)]; exact s.2.2⟩, b.to (a2 26 (by simp)) (a2 27 (by simp)) (f2 25 (by simp)), (a2 4 (by simp)).trans e, ?_⟩ ?_)
  · obtain ⟨a1, b2, b3, b4, b5, b6⟩ := hw
    exact ⟨a1, by rw [f2 3 (by simp)]; exact b2, b3, b4, by rw [a2 (3 + 1) (by simp)]; exact b5, by rw [a2 (3 + 1) (by simp)]; exact b6⟩
  · have h := rk.2.2.1
    rw [show A' (3 + 1) = c from e] at h
    exact h
def ofP (tc : (Nat → Int32) → Int32) (c : Nat → Int32) (n y : Nat) (f : Nat → Int64) (T k : Nat) (m : Nat) : Prop := allSo (sSh tc (upd c k (Int32.ofNat m)) n y (earsOf (upd c k (Int32.ofNat m)) n)) f T
theorem c_fitOf (hK : 7 < K) (hN : NowOk A F tc n y) (bl : BL A F f T) (hT : TwR f i n T) (hp : p < n) (ho : (o = 3 ∧ M = 4) ∨ (o = 4 ∧ M = 5)) (H : ∀ A' F', Sc A F A' F' → g (accB (ofP tc (A 2) n y f T (8 * o + p)) M) (HP A' L F')) : xm_Call K sX8_fittingOf 8 [.ref 0, .int (Int32.ofNat p), .int (Int32.ofNat o)] (HP A L F) (xm_pi g) := by
  have hn8 := hN.1.2.2.1
  have hst : ∀ (A' : Nat → Nat → Int32) (F' : Nat → Nat → Int32), xm_ld xm_st (HP A' L F') 0 (1000 + 1) (Int32.ofNat o) = some (Int32.ofNat (M - 1)) := by
    rcases ho with ⟨rfl, rfl⟩ | ⟨rfl, rfl⟩ <;> exact fun _ _ => rfl
  have hst0 : ∀ (A' : Nat → Nat → Int32) (F' : Nat → Nat → Int32), xm_ld xm_st (HP A' L F') 0 (1000 + 0) (Int32.ofNat o) = some 0 := by
    rcases ho with ⟨rfl, rfl⟩ | ⟨rfl, rfl⟩ <;> exact fun _ _ => rfl
  refine eX8_fittingOf (K := 7) hK ⟨_, rfl⟩ ⟨_, rfl, _, rfl, c_copyT (by omega) hN.2.2.1 hN.2.2.2 ⟨_, hst0 _ _, ?_⟩⟩
  refine xm_for (n := M) (Q := fun m h => xm_L 7 sX8_fittingOf kX8_fittingOf 11 [some (.ref 0), some (.int (Int32.ofNat p)), some (.int (Int32.ofNat o)), some (.int (accB (ofP tc (A 2) n y f T (8 * o + p)) m)), some (.int (Int32.ofNat m))] [] h (xm_pi g)) (fun m h => ∃ A' F' v, h = HP A' L F' ∧ TB A F f T n y (upd (A 2) (8 * o + p) v) A' F') ?_ ?_ 0 _ (Nat.zero_le _) ⟨_, _, A 2 (8 * o + p), rfl, by rw [upd_same]; exact TB.start hN bl⟩
  · rintro m h hm ⟨A1, F1, v, rfl, tb⟩ ih
    refine xX8_fittingOf_11 ⟨_, hst _ _, ?_⟩
    rw [if_neg (n_ge (by omega) (by omega) (by omega)), n_succ]
    refine ⟨_, rfl, c_set (w := 3) (n := n) (by omega) (Or.inr (Or.inl rfl)) tb.2.2.2.2.1 hn8 hp (by omega) ⟨_, rfl, _, rfl, ?_⟩⟩
    have tb2 := tb.set (k := 8 * o + p) (v := Int32.ofNat m) (by omega)
    rw [upd_upd] at tb2
    refine c_tryT (tc := tc) (by omega) hN tb2 (fun A2 F2 tb3 hs => c_isAllSo (sh := sSh tc (upd (A 2) (8 * o + p) (Int32.ofNat m)) n y (earsOf (upd (A 2) (8 * o + p) (Int32.ofNat m)) n)) (by omega) hT hn8 tb3.2.1 hs (fun ha => ?_) (fun ha => ?_))
    · rw [if_neg (by decide), ← acc_t (P := ofP tc (A 2) n y f T (8 * o + p)) ha]
      exact ih _ ⟨A2, F2, _, rfl, tb3⟩
    · rw [if_pos rfl, Int32.or_zero, ← acc_f (P := ofP tc (A 2) n y f T (8 * o + p)) ha]
      exact ih _ ⟨A2, F2, _, rfl, tb3⟩
  · rintro h ⟨A1, F1, v, rfl, tb⟩
    refine xX8_fittingOf_11 ⟨_, hst _ _, ?_⟩
    rw [if_pos ((n_lt (by omega) (by omega)).mpr (by omega))]
    exact xm_pi_i (H A1 F1 tb.1)
noncomputable def resS (x : Int32) (P : Nat → Prop) (M : Nat) : Int32 := if x = 0 then Int32.ofNat (cR P M) else frsB P M
theorem c_fitSnows (hK : 7 < K) (hN : NowOk A F tc n y) (bl : BL A F f T) (hT : TwR f i n T) (H : ∀ A' F', Sc A F A' F' → g (resS x1 (ofP tc (A 2) n y f T (56 + y % 8)) 100) (HP A' L F')) : xm_Call K sX8_fittingSnows 8 [.ref 0, .int x1] (HP A L F) (xm_pi g) := by
  have hn8 := hN.1.2.2.1
  have hy := hN.1.2.2.2.1
  have hy8 := Nat.mod_lt y (show 0 < 8 by omega)
  refine eX8_fittingSnows (K := 7) hK ⟨_, rfl⟩ ⟨_, rfl, _, rfl, c_copyT (by omega) hN.2.2.1 hN.2.2.2 ?_⟩
  have e0 : (if x1 = 0 then Int32.ofNat (cR (ofP tc (A 2) n y f T (56 + y % 8)) 0) else 0) = 0 := by split <;> rfl
  suffices hk : xm_L 7 sX8_fittingSnows kX8_fittingSnows 9 [some (.ref 0), some (.int x1), some (.int (if x1 = 0 then Int32.ofNat (cR (ofP tc (A 2) n y f T (56 + y % 8)) 0) else 0)), some (.int (Int32.ofNat 0))] [] (HP (va_up A 4 (A 2)) L (va_up F 3 (va_up (F 3) 1 (F 1 1)))) (xm_pi g) by
    rw [e0] at hk; exact hk
  refine xm_for (n := 100) (Q := fun m h => xm_L 7 sX8_fittingSnows kX8_fittingSnows 9 [some (.ref 0), some (.int x1), some (.int (if x1 = 0 then Int32.ofNat (cR (ofP tc (A 2) n y f T (56 + y % 8)) m) else 0)), some (.int (Int32.ofNat m))] [] h (xm_pi g)) (fun m h => (¬ x1 = 0 → ∀ j, j < m → ¬ ofP tc (A 2) n y f T (56 + y % 8) j) ∧ ∃ A' F' v, h = HP A' L F' ∧ TB A F f T n y (upd (A 2) (56 + y % 8) v) A' F') ?_ ?_ 0 _ (Nat.zero_le _) ?_
  · rintro m h hm ⟨hno, A1, F1, v, rfl, tb⟩ ih
    refine xX8_fittingSnows_9 ?_
    rw [if_pos (show Int32.ofNat m < (100 : Int32) from (n_lt (q := 100) (by omega) (by omega)).mpr hm), n_succ m]
    refine ⟨_, rfl, c_setSnow (w := 3) (y := y) (by omega) (Or.inr (Or.inl rfl)) hy tb.2.2.2.2.2.2.2.1 ⟨_, rfl, _, rfl, ?_⟩⟩
    have tb2 := tb.set (k := 56 + y % 8) (v := Int32.ofNat m) (by omega)
    rw [upd_upd] at tb2
    refine c_tryT (tc := tc) (by omega) hN tb2 (fun A2 F2 tb3 hs => c_isAllSo (sh := sSh tc (upd (A 2) (56 + y % 8) (Int32.ofNat m)) n y (earsOf (upd (A 2) (56 + y % 8) (Int32.ofNat m)) n)) (by omega) hT hn8 tb3.2.1 hs (fun ha => ?_) (fun ha => ?_))
    · rw [if_neg (by decide)]
      by_cases h1 : x1 = 0
      · rw [if_pos h1, if_pos h1, n_succ, ← cR_t (P := ofP tc (A 2) n y f T (56 + y % 8)) ha]
        have := ih _ ⟨fun q => absurd h1 q, A2, F2, _, rfl, tb3⟩
        rw [if_pos h1] at this
        exact this
      · rw [if_neg h1]
        have := H A2 F2 tb3.1
        rw [resS, if_neg h1, frs_first (hno h1) ha 100 hm] at this
        exact xm_pi_i this
    · rw [if_pos rfl]
      have hno2 : ¬ x1 = 0 → ∀ j, j < m + 1 → ¬ ofP tc (A 2) n y f T (56 + y % 8) j := fun h1 j hj => by
        by_cases ej : j = m
        · subst ej; exact ha
        · exact hno h1 j (by omega)
      have := ih _ ⟨hno2, A2, F2, _, rfl, tb3⟩
      rw [cR_f (P := ofP tc (A 2) n y f T (56 + y % 8)) ha] at this
      exact this
  · rintro h ⟨hno, A1, F1, v, rfl, tb⟩
    refine xX8_fittingSnows_9 ?_
    rw [if_neg (by decide)]
    have := H A1 F1 tb.1
    by_cases h1 : x1 = 0
    · rw [if_pos h1, if_pos h1]
      rw [resS, if_pos h1] at this
      exact xm_pi_i this
    · rw [if_neg h1]
      rw [resS, if_neg h1, frs_none 100 (hno h1)] at this
      exact xm_pi_i this
  · refine ⟨fun _ j hj => absurd hj (by omega), _, _, A 2 (56 + y % 8), rfl, ?_⟩
    rw [upd_same]; exact TB.start hN bl
theorem n_shl8 : ∀ n, n ≤ 8 → (1 : Int32) <<< (Int32.ofNat n &&& 31) = Int32.ofNat (2 ^ n) ∧ 2 ^ n ≤ 256 := by decide +kernel
def erP (tc : (Nat → Int32) → Int32) (c : Nat → Int32) (n y : Nat) (f : Nat → Int64) (T m : Nat) : Prop := allSo (sSh tc c n y m) f T
theorem c_fitEars (hK : 7 < K) (hN : NowOk A F tc n y) (bl : BL A F f T) (hT : TwR f i n T) (H : ∀ A' F', Sc A F A' F' → g (resS x1 (erP tc (A 2) n y f T) (2 ^ n)) (HP A' L F')) : xm_Call K sX8_fittingEars 8 [.ref 0, .int x1] (HP A L F) (xm_pi g) := by
  obtain ⟨w1, w2, w3, w4, w5, w6⟩ := hN.1
  obtain ⟨sh1, sh2⟩ := n_shl8 n w3
  refine eX8_fittingEars (K := 7) hK ⟨_, rfl⟩ ⟨_, rfl, _, rfl, c_weigh (tc := tc) (n := n) (y := y) (w := 1) (by omega) w1 w2 w3 w4 w5 hN.2.1 (fun A1 F1 a1 a2 f1 _ => ?_)⟩
  have e0 : (if x1 = 0 then Int32.ofNat (cR (erP tc (A 2) n y f T) 0) else 0) = 0 := by split <;> rfl
  suffices hk : xm_L 7 sX8_fittingEars kX8_fittingEars 9 [some (.ref 0), some (.int x1), some (.int (if x1 = 0 then Int32.ofNat (cR (erP tc (A 2) n y f T) 0) else 0)), some (.int (Int32.ofNat 0))] [] (HP A1 L F1) (xm_pi g) by
    rw [e0] at hk; exact hk
  refine xm_for (n := 2 ^ n) (Q := fun m h => xm_L 7 sX8_fittingEars kX8_fittingEars 9 [some (.ref 0), some (.int x1), some (.int (if x1 = 0 then Int32.ofNat (cR (erP tc (A 2) n y f T) m) else 0)), some (.int (Int32.ofNat m))] [] h (xm_pi g)) (fun m h => (¬ x1 = 0 → ∀ j, j < m → ¬ erP tc (A 2) n y f T j) ∧ ∃ A' F', h = HP A' L F' ∧ Ag [8, 9, 10, 11, 12] A A' ∧ Ag [5] F F' ∧ ∀ q, q < 8 → A' 10 q = wgt tc (A 2) n y q) ?_ ?_ 0 _ (Nat.zero_le _) ?_
  · rintro m h hm ⟨hno, A2, F2, rfl, b1, b2, b3⟩ ih
    have e2 : A2 2 = A 2 := b1 2 (by simp)
    refine xX8_fittingEars_9 ⟨_, rfl, _, rfl, ?_⟩
    rw [b2 1 (by simp), w2, sh1, if_pos ((n_lt (by omega) (by omega)).mpr hm), n_succ m]
    have hw2 : WOk A2 F2 1 n y := ⟨w1, by rw [b2 1 (by simp)]; exact w2, w3, w4, by rw [b1 (1 + 1) (by simp)]; exact w5, by rw [b1 (1 + 1) (by simp)]; exact w6⟩
    refine ⟨_, rfl, _, rfl, c_shareOut2 (tc := tc) (n := n) (y := y) (w := 1) (by omega) hw2 (by omega) (by rw [show A2 (1 + 1) = A 2 from e2]; exact b3) (fun A3 F3 d1 d2 _ rk => ?_)⟩
    rw [show A2 (1 + 1) = A 2 from e2] at rk
    have k1 : Ag [8, 9, 10, 11, 12] A A3 := Ag.tr b1 (d1.mono (fun k hk => by simp at hk ⊢; omega))
    have k2 : Ag [5] F F3 := Ag.tr b2 d2
    have k3 : Sc A F A3 F3 := ⟨k1.mono (fun k hk => by simp at hk ⊢; omega), k2.mono (fun k hk => by simp at hk ⊢; omega), by rw [k1 4 (by simp)]; exact hN.2.2.2⟩
    have k4 : ∀ q, q < 8 → A3 10 q = wgt tc (A 2) n y q := by rw [d1 10 (by simp)]; exact b3
    refine c_isAllSo (sh := sSh tc (A 2) n y m) (by omega) hT w3 (bl.to (k1 26 (by simp)) (k1 27 (by simp)) (k2 25 (by simp))) rk.2.2.1 (fun ha => ?_) (fun ha => ?_)
    · rw [if_neg (by decide)]
      by_cases h1 : x1 = 0
      · rw [if_pos h1, if_pos h1, n_succ, ← cR_t (P := erP tc (A 2) n y f T) ha]
        have := ih _ ⟨fun q => absurd h1 q, A3, F3, rfl, k1, k2, k4⟩
        rw [if_pos h1] at this
        exact this
      · rw [if_neg h1]
        have := H A3 F3 k3
        rw [resS, if_neg h1, frs_first (hno h1) ha (2 ^ n) hm] at this
        exact xm_pi_i this
    · rw [if_pos rfl]
      have hno2 : ¬ x1 = 0 → ∀ j, j < m + 1 → ¬ erP tc (A 2) n y f T j := fun h1 j hj => by
        by_cases ej : j = m
        · subst ej; exact ha
        · exact hno h1 j (by omega)
      have := ih _ ⟨hno2, A3, F3, rfl, k1, k2, k4⟩
      rw [cR_f (P := erP tc (A 2) n y f T) ha] at this
      exact this
  · rintro h ⟨hno, A2, F2, rfl, b1, b2, b3⟩
    refine xX8_fittingEars_9 ⟨_, rfl, _, rfl, ?_⟩
    rw [b2 1 (by simp), w2, sh1, if_neg (n_ge (by omega) (by omega) (Nat.le_refl _))]
    have := H A2 F2 ⟨b1.mono (fun k hk => by simp at hk ⊢; omega), b2.mono (fun k hk => by simp at hk ⊢; omega), by rw [b1 4 (by simp)]; exact hN.2.2.2⟩
    by_cases h1 : x1 = 0
    · rw [if_pos h1, if_pos h1]
      rw [resS, if_pos h1] at this
      exact xm_pi_i this
    · rw [if_neg h1]
      rw [resS, if_neg h1, frs_none (2 ^ n) (hno h1)] at this
      exact xm_pi_i this
  · exact ⟨fun _ j hj => absurd hj (by omega), A1, F1, rfl, a1.mono (fun k hk => by simp at hk ⊢; omega), f1, a2⟩
end FTC
