section RKF
variable {A : Nat → Nat → Int32} {L : Nat → Nat → Int64} {F : Nat → Nat → Int32} {g : Int32 → xm_H → Prop} {gv : xm_H → Prop} {w n p k j y e K : Nat} {x v z : Int32} {h : xm_H} {tc : (Nat → Int32) → Int32}
theorem st_m1 : xm_ld xm_st (HP A L F) 0 (1000 + 1) (1 : Int32) = some 9999 := rfl
theorem st_m2 : xm_ld xm_st (HP A L F) 0 (1000 + 1) (2 : Int32) = some 99 := rfl
theorem st_m8 : xm_ld xm_st (HP A L F) 0 (1000 + 1) (8 : Int32) = some 199 := rfl
def eyI (A : Nat → Nat → Int32) (L : Nat → Nat → Int64) (F : Nat → Nat → Int32) (c s : Nat → Int32) (w y p : Nat) (h : xm_H) : Prop := ∃ A' F', h = HP A' L F' ∧ Ag [w + 1] A A' ∧ A' (w + 1) = yrC c y s p ∧ Ag [5] F F' ∧ (∀ k, k ≠ 10 → F' 5 k = F 5 k) ∧ F' 5 10 = lackS c y s p
/-- the loop of endYear -/
theorem ey_loop (hw : isW w) (hn : F w 1 = Int32.ofNat n) (hn8 : n ≤ 8) (hy : y < 200) (hey : A (w + 1) 64 = Int32.ofNat y) (h10 : F 5 10 = 0) {s : Nat → Int32} (hs : ∀ q, q < 8 → A 12 q = s q)
    (H : ∀ A' F', Ag [w + 1] A A' → A' (w + 1) = upd (yrC (A (w + 1)) y s n) 64 (minI 199 (Int32.ofNat y + 1)) → Ag [5] F F' → (∀ k, k ≠ 10 → F' 5 k = F 5 k) → F' 5 10 = lackS (A (w + 1)) y s n → gv (HP A' L F')) :
    xm_L 6 sX4_endYear kX4_endYear 18 [some (.ref 5), some (.ref w), some (.int (A (w + 1) (56 + y % 8) / 2)), some (.int (0 : Int32)), none, none] [] (HP A L F) (xm_pv gv) := by
  refine xm_for (n := n) (Q := fun p h => xm_L 6 sX4_endYear kX4_endYear 18 [some (.ref 5), some (.ref w), some (.int (A (w + 1) (56 + y % 8) / 2)), some (.int (Int32.ofNat p)), none, none] [] h (xm_pv gv)) (eyI A L F (A (w + 1)) s w y) ?_ ?_ 0 _ (Nat.zero_le _) ⟨A, F, rfl, Ag.rf, rfl, Ag.rf, fun _ _ => rfl, h10⟩
  · rintro p h hp ⟨A', F', rfl, h1, h2, h3, h4, h5⟩ ih
    have hF' : F' w = F w := h3 w (by simpa using w_ne hw)
    have hn' : F' w 1 = Int32.ofNat n := by rw [hF']; exact hn
    have c24 : A' (w + 1) (8 * 3 + p) = A (w + 1) (24 + p) := by rw [h2]; exact yrC_at _ _ _ _ _ (by omega) (by omega)
    have c8 : A' (w + 1) (8 * 1 + p) = A (w + 1) (8 + p) := by rw [h2]; exact yrC_at _ _ _ _ _ (by omega) (by omega)
    have c48 : A' (w + 1) (8 * 6 + p) = A (w + 1) (48 + p) := by rw [h2]; exact yrC_at _ _ _ _ _ (by omega) (by omega)
    have c16 : A' (w + 1) (8 * 2 + p) = A (w + 1) (16 + p) := by rw [h2]; exact yrC_at _ _ _ _ _ (by omega) (by omega)
    have c12 : A' 12 p = s p := by rw [h1 12 (by rcases hw with rfl | rfl | rfl <;> simp)]; exact hs p (by omega)
    refine xX4_endYear_18 ⟨_, w_people hw, ?_⟩
    rw [hn', if_pos ((n_lt (by omega) (by omega)).mpr hp)]
    refine c_get (k := 1) (by omega) hw hn' hn8 hp (by omega) (c_shareOf (by omega) (by omega) (c_get (k := 3) (by omega) hw hn' hn8 hp (by omega) (c_isGone (by omega) ?_)))
    rw [c24, c8, c12]
    have tail : ∀ lf : Int32, leftS (A (w + 1)) y p (s p) = lf → ∃ f10, xm_fld (HP A' L F') 5 4 10 = some (.int f10) ∧ xm_Call 6 sJ9_max_7cf53 99 [.int (0 : Int32), .int (-lf)] (HP A' L F') (xm_pi fun c12 h11 => ∃ h13, xm_put h11 5 4 10 (.int (f10 + c12)) = some h13 ∧ xm_Call 6 sJ9_max_7cf53 99 [.int (0 : Int32), .int lf] h13 (xm_pi fun c15 h14 => xm_Call 6 sX7_get 7 [.ref w, .int (Int32.ofNat p), .int (6 : Int32)] h14 (xm_pi fun c17 h16 => ∃ e18, xm_ld xm_st h16 0 (1000 + 1) (1 : Int32) = some e18 ∧ xm_Call 6 sJ9_min_7cf53 99 [.int e18, .int (c15 + c17)] h16 (xm_pi fun c20 h19 => xm_Call 6 sX7_set 7 [.ref w, .int (Int32.ofNat p), .int (1 : Int32), .int c20] h19 (xm_pv fun h21 => ∃ e22, xm_ld xm_st h21 0 (1000 + 1) (2 : Int32) = some e22 ∧ xm_Call 6 sX7_get 7 [.ref w, .int (Int32.ofNat p), .int (2 : Int32)] h21 (xm_pi fun c24 h23 => xm_Call 6 sJ9_min_7cf53 99 [.int e22, .int (c24 + (1 : Int32))] h23 (xm_pi fun c26 h25 => xm_Call 6 sX7_set 7 [.ref w, .int (Int32.ofNat p), .int (2 : Int32), .int c26] h25 (xm_pv fun h27 => xm_L 6 sX4_endYear kX4_endYear 18 [some (.ref 5), some (.ref w), some (.int (A (w + 1) (56 + y % 8) / 2)), some (.int (Int32.ofNat p + (1 : Int32))), none, none] [] h27 (xm_pv gv))))))))) := by
      intro lf hlf
      refine ⟨_, rfl, c_max (by omega) ⟨_, p_5_10, c_max (by omega) ?_⟩⟩
      have hn2 : (va_up F' 5 (va_up (F' 5) 10 (F' 5 10 + if 0 < -lf then -lf else 0))) w 1 = Int32.ofNat n := by rw [u_ne (w_ne hw)]; exact hn'
      refine c_get (k := 6) (by omega) hw hn2 hn8 hp (by omega) ⟨_, st_m1, c_min (by omega) (c_set (k := 1) (by omega) hw hn2 hn8 hp (by omega) ⟨_, st_m2, c_get (k := 2) (by omega) hw hn2 hn8 hp (by omega) (c_min (by omega) (c_set (k := 2) (by omega) hw hn2 hn8 hp (by omega) ?_))⟩)⟩
      rw [n_succ]
      refine ih _ ⟨_, _, rfl, Ag.up (Ag.up h1 (by simp)) (by simp), ?_, Ag.up h3 (by simp), fun k k10 => ?_, ?_⟩
      · rw [u_eq, u_eq, p_ne (by omega), c48, c16, h2]
        show upd (upd (yrC (A (w + 1)) y s p) (8 * 1 + p) _) (8 * 2 + p) _ = upd (upd (yrC (A (w + 1)) y s p) (8 + p) _) (16 + p) _
        rw [hlf]
        rfl
      · rw [u_eq, u_ne k10]; exact h4 k k10
      · rw [u_eq, u_eq, h5]
        show _ = lackS _ _ _ p + max0 (-(leftS _ _ _ _))
        rw [hlf]
        rfl
    by_cases hg : A (w + 1) (24 + p) < 2
    · rw [if_pos hg, if_pos rfl]
      exact tail _ (by rw [leftS, if_pos hg])
    · rw [if_neg hg, if_neg (by decide)]
      exact tail _ (by rw [leftS, if_neg hg])
  · rintro h ⟨A', F', rfl, h1, h2, h3, h4, h5⟩
    have hn' : F' w 1 = Int32.ofNat n := by rw [h3 w (by simpa using w_ne hw)]; exact hn
    have c64 : A' (w + 1) (56 + 8) = Int32.ofNat y := by rw [h2, ← hey]; exact yrC_at _ _ _ _ _ (by omega) (by omega)
    refine xX4_endYear_18 ⟨_, w_people hw, ?_⟩
    rw [hn', if_neg (fun q => absurd ((n_lt (by omega) (by omega)).mp q) (by omega))]
    refine ⟨_, st_m8, c_get_b (k := 8) (by omega) hw (by omega) (by omega) (c_min (by omega) (c_set_b (k := 8) (by omega) hw (by omega) (by omega) (xm_pv_i (H _ _ (Ag.up h1 (by simp)) ?_ h3 h4 h5))))⟩
    rw [u_eq, c64, h2]
    rfl
/-- endYear(w): the world is a year older; the reckoner holds the reckoning of the year that ended, and what lacked -/
theorem c_endYear (hK : 6 < K) (hw : WOk A F w n y) (ht : TXok A F tc) (H : ∀ A' F', Ag [w + 1, 8, 9, 10, 11, 12] A A' → A' (w + 1) = yrS tc (A (w + 1)) n y → Ag [5] F F' → RkR tc (A (w + 1)) n y (earsOf (A (w + 1)) n) A' F' → F' 5 10 = lackS (A (w + 1)) y (sSh tc (A (w + 1)) n y (earsOf (A (w + 1)) n)) n → gv (HP A' L F')) : xm_Call K sX4_endYear 4 [.ref 5, .ref w] (HP A L F) (xm_pv gv) := by
  refine eX4_endYear (K := 6) hK ⟨_, rfl⟩ (c_weigh (by omega) hw.1 hw.2.1 hw.2.2.1 hw.2.2.2.1 hw.2.2.2.2.1 ht (fun A1 F1 a1 a2 a3 a4 => ?_))
  have hw1 : WOk A1 F1 w n y := hw.to a1 a3 (by simp) (by simp)
  have hAw := w_in hw.1 a1 (by simp)
  refine c_ears (by omega) hw1.1 hw1.2.1 hw1.2.2.1 hw1.2.2.2.2.2 ?_
  refine c_shareOut2 (tc := tc) (e := earsOf (A1 (w + 1)) n) (by omega) hw1 (earsOf_lt _ hw1.2.2.1) (by rw [hAw]; exact a2) (fun A2 F2 b1 b2 b3 b4 => ⟨_, p_5_10, ?_⟩)
  have hAw2 : A2 (w + 1) = A (w + 1) := (w_in hw.1 b1 (by simp)).trans hAw
  have hw2 : WOk A2 (va_up F2 5 (va_up (F2 5) 10 0)) w n y := hw1.to b1 (Ag.up b2 (by simp)) (by simp) (by simp)
  rw [hAw] at b4
  refine c_snow (y := y) (by omega) hw2.1 hw2.2.2.2.1 hw2.2.2.2.2.1 ⟨by decide, ?_⟩
  refine ey_loop (s := sSh tc (A (w + 1)) n y (earsOf (A (w + 1)) n)) hw2.1 hw2.2.1 hw2.2.2.1 hw2.2.2.2.1 hw2.2.2.2.2.1 (by rw [u_eq, u_eq]) b4.2.2.1 (fun A3 F3 d1 d2 d3 d4 d5 => H A3 F3 ?_ ?_ ?_ ?_ ?_)
  · refine Ag.tr (Ag.tr (a1.mono (fun k hk => by simp at hk ⊢; omega)) (b1.mono (fun k hk => by simp at hk ⊢; omega))) (d1.mono (fun k hk => by simp at hk ⊢; omega))
  · rw [d2, hAw2]; rfl
  · exact Ag.tr (Ag.tr a3 b2) (Ag.tr (Ag.up Ag.rf (by simp)) d3)
  · obtain ⟨r1, r2, r3, r4, r5, r6⟩ := b4
    have hne : ∀ k, k ∈ [10, 11, 12] → A3 k = A2 k := fun k hk => d1 k (by rcases hw.1 with rfl | rfl | rfl <;> simp at hk ⊢ <;> omega)
    have hf : ∀ k, k ≠ 10 → F3 5 k = F2 5 k := fun k hk => by rw [d4 k hk, u_eq, u_ne hk]
    exact ⟨by rw [hne 10 (by simp)]; exact r1, by rw [hne 11 (by simp)]; exact r2, by rw [hne 12 (by simp)]; exact r3, by rw [hf 7 (by omega)]; exact r4, by rw [hf 8 (by omega)]; exact r5, by rw [hf 9 (by omega)]; exact r6⟩
  · rw [d5, hAw2]
end RKF
