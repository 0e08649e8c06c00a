section DDD
variable {A : Nat → Nat → Int32} {L : Nat → Nat → Int64} {F : Nat → Nat → Int32} {g : Int32 → Int32 → xm_H → Prop} {gv : xm_H → Prop} {w n p k j y e m r o a d u K nb : Nat} {x x1 x2 x3 v z : Int32} {h : xm_H} {tc : (Nat → Int32) → Int32} {c : Nat → Int32}
theorem c_layN (hK : 0 < K) (hc : j < 67) (H : gv (HP (va_up A 2 (upd (A 2) j v)) L F)) : xm_Call K sX2_lay 99 [.ref 2, .int (Int32.ofNat j), .int v] (HP A L F) (xm_pv gv) := by
  refine eX2_lay (K := 0) hK ?_
  rw [if_neg (xs_nn (by omega))]
  refine ⟨_, rfl, ?_⟩
  rw [if_pos (show Int32.ofNat j < Int32.ofNat 67 from (n_lt (by omega) (by omega)).mpr hc)]
  exact ⟨_, sn_2 hc, xm_pv_i H⟩
/-- what stands behind an undoing or a redoing -/
theorem INV.chg {A' F' : Nat → Nat → Int32} {d' u' : Nat} (hI : INV A L F n nb tc) (hp : plc n o a) (hv : mayV o v) (h2 : A' 2 = upd (A 2) (cel o a) v) (hm : A' (mC o) = upd (A (mC o)) (mI o a) v) (hA : ∀ k, k ≠ 2 → k ≠ mC o → A' k = A k) (hF : ∀ k, k ≠ 16 → k ≠ 44 → F' k = F k) (hF4 : ∀ k, k ≠ 11 → k ≠ 12 → F' 44 k = F 44 k) (hC : ChR A' F' n) : INV A' L F' n nb tc := by
  have hI0 := hI
  obtain ⟨⟨hB, -, -⟩, ⟨-, hL, hM⟩, -⟩ := hI0
  have c3 := hB.1.2.2
  have hx := plc_x c3 hp
  have ho : o ≤ 10 := by unfold plx at hx; omega
  have hmc := mC_ge (o := o)
  have hmc2 := hmc.2 ho
  refine hI.re ?_ (fun k hk => ?_) (fun k hk => ?_) (fun k hk => ?_) hC ?_ ?_
  · refine hB.lays hp hv h2 hm (fun k hk => ?_) (fun k k1 k2 k3 => hA k (by omega) k3) ⟨by rw [hF 1 (by omega) (by omega)], hF4 1 (by omega) (by omega)⟩
    simp at hk
    exact hA k (by omega) (by omega)
  · simp at hk
    exact hA k (by omega) (by omega)
  · simp at hk
    exact hF k (by omega) (by omega)
  · simp at hk
    exact hF4 k (by omega) (by omega)
  · exact hL.to ⟨hA 20 (by omega) (by omega), hA 72 (by omega) (by omega)⟩
  · exact hM.to (Nat.le_refl _) ⟨hA 22 (by omega) (by omega), hA 23 (by omega) (by omega), hA 73 (by omega) (by omega), hA 74 (by omega) (by omega)⟩ ⟨by rw [hF 0 (by omega) (by omega)], by rw [hF 21 (by omega) (by omega)], hF4 45 (by omega) (by omega), hF4 46 (by omega) (by omega), hF4 47 (by omega) (by omega)⟩
theorem ChR.re {A' F' : Nat → Nat → Int32} {d' u' : Nat} (hent : ∀ k, k < d + u → ∃ o a, plc n o a ∧ A 54 k = Int32.ofNat o ∧ A 55 k = Int32.ofNat a ∧ A 17 k = Int32.ofNat (cel o a) ∧ A 18 k = A 56 k ∧ A 19 k = A 57 k ∧ mayV o (A 18 k) ∧ mayV o (A 19 k)) (hA : ∀ k, k ∈ [17, 18, 19, 54, 55, 56, 57] → A' k = A k) (hdu : d + u ≤ 40) (he : d' + u' = d + u) (f3 : F' 16 3 = Int32.ofNat d') (f4 : F' 16 4 = Int32.ofNat (d + u)) (f11 : F' 44 11 = Int32.ofNat d') (f12 : F' 44 12 = Int32.ofNat u') : ChR A' F' n := by
  refine ⟨d', u', by omega, f3, by rw [he]; exact f4, f11, f12, fun k hk => ?_⟩
  rw [hA 54 (by simp), hA 55 (by simp), hA 17 (by simp), hA 18 (by simp), hA 56 (by simp), hA 19 (by simp), hA 57 (by simp)]
  exact hent k (by omega)
theorem st_undo (hK : 40 ≤ K) (hI : INV A L F n nb tc) (H : Fin2 g) : xm_Call K sX8_undo 8 [.ref 0] (HP A L F) (xm_pi fun c h => xm_Call K sX9_undo 9 [.ref 44] h (xm_pi fun c' h' => g c c' h')) := by
  have hI0 := hI
  obtain ⟨⟨hB, -, -⟩, ⟨hC, hL, hM⟩, -⟩ := hI0
  have c3 := hB.1.2.2
  obtain ⟨d, u, hdu, f3, f4, f11, f12, hent⟩ := hC
  refine eX8_undo (K := 5) (by omega) ⟨_, rfl⟩ ⟨_, rfl, _, rfl, ?_⟩
  rw [f3]
  by_cases h0 : d = 0
  · subst h0
    rw [if_pos (show Int32.ofNat 0 = 0 from rfl)]
    refine xm_pi_i (eX9_undo (K := 5) (by omega) ⟨_, rfl⟩ ⟨_, rfl, ?_⟩)
    rw [f11, if_pos (show Int32.ofNat 0 = 0 from rfl)]
    exact xm_pi_i (H _ _ _ _ _ _ _ hI)
  · obtain ⟨d1, rfl⟩ : ∃ d1, d = d1 + 1 := ⟨d - 1, by omega⟩
    have hne : ¬ Int32.ofNat (d1 + 1) = 0 := fun q => absurd ((n_eq (q := 0) (by omega) (by omega)).mp q) (by omega)
    obtain ⟨o, a, hp, e54, e55, e17, e18, e19, v18, v19⟩ := hent d1 (by omega)
    have hx := plc_x c3 hp
    have ho : o ≤ 10 := by unfold plx at hx; omega
    have hmc := mC_ge (o := o)
    have hmc2 := hmc.2 ho
    rw [if_neg hne]
    refine ⟨_, rfl, _, rfl, _, rfl, eX2_stepBack (K := 4) (by omega) ⟨_, rfl⟩ ⟨_, rfl, ?_⟩⟩
    rw [f3, if_pos (show (0 : Int32) < Int32.ofNat (d1 + 1) from (n_lt (p := 0) (by omega) (by omega)).mpr (by omega))]
    refine ⟨_, rfl, _, p_16_3, ?_⟩
    rw [f3, n_pred]
    refine ⟨_, rfl, Int32.ofNat d1, rfl, _, ln_17 (by omega), _, rfl, Int32.ofNat d1, rfl, _, ln_18 (by omega), ?_⟩
    rw [e17]
    refine c_layN (by omega) (cel_lt hx) (xm_pv_i ⟨_, rfl, Int32.ofNat d1, rfl, xm_pi_i ?_⟩)
    refine eX9_undo (K := 5) (by omega) ⟨_, rfl⟩ ⟨Int32.ofNat (d1 + 1), by rw [← f11]; rfl, ?_⟩
    rw [if_neg hne]
    refine ⟨Int32.ofNat (d1 + 1), by rw [← f11]; rfl, _, p_44_11, Int32.ofNat u, by rw [← f12]; rfl, _, p_44_12, ?_⟩
    rw [n_pred]
    refine ⟨_, rfl, Int32.ofNat d1, rfl, _, ln_54 (by omega), _, rfl, Int32.ofNat d1, rfl, _, ln_55 (by omega), _, rfl, Int32.ofNat d1, rfl, _, ln_56 (by omega), ?_⟩
    rw [show va_up A 2 (upd (A 2) (cel o a) (A 18 d1)) 54 d1 = Int32.ofNat o from e54, show va_up A 2 (upd (A 2) (cel o a) (A 18 d1)) 55 d1 = Int32.ofNat a from e55, show va_up A 2 (upd (A 2) (cel o a) (A 18 d1)) 56 d1 = A 18 d1 from e18.symm]
    refine m_lays (by omega) hx ⟨Int32.ofNat d1, rfl, xm_pi_i (H _ _ _ _ n nb tc (hI.chg (d' := d1) (u' := u + 1) (v := A 18 d1) hp v18 ?_ ?_ ?_ ?_ ?_ ?_))⟩
    · rw [u_ne (by omega), u_eq]
    · rw [u_eq, u_ne (by omega)]
    · intro k k1 k2; rw [u_ne k2, u_ne k1]
    · intro k k1 k2; rw [u_ne k2, u_ne k2, u_ne k1]
    · intro k k1 k2; rw [u_eq, u_ne k2, u_eq, u_ne k1, u_ne (by omega)]
    · refine ChR.re (d := d1 + 1) (u := u) (d' := d1) (u' := u + 1) hent (fun k hk => ?_) hdu (by omega) rfl f4 rfl ?_
      · simp at hk
        rw [u_ne (by omega), u_ne (by omega)]
      · rw [u_eq, u_eq, n_succ]
theorem st_redo (hK : 40 ≤ K) (hI : INV A L F n nb tc) (H : Fin2 g) : xm_Call K sX8_redo 8 [.ref 0] (HP A L F) (xm_pi fun c h => xm_Call K sX9_redo 9 [.ref 44] h (xm_pi fun c' h' => g c c' h')) := by
  have hI0 := hI
  obtain ⟨⟨hB, -, -⟩, ⟨hC, hL, hM⟩, -⟩ := hI0
  have c3 := hB.1.2.2
  obtain ⟨d, u, hdu, f3, f4, f11, f12, hent⟩ := hC
  refine eX8_redo (K := 5) (by omega) ⟨_, rfl⟩ ⟨_, rfl, _, rfl, _, rfl, _, rfl, ?_⟩
  rw [f3, f4]
  by_cases h0 : u = 0
  · subst h0
    rw [if_pos (show Int32.ofNat d = Int32.ofNat (d + 0) from rfl)]
    refine xm_pi_i (eX9_redo (K := 5) (by omega) ⟨_, rfl⟩ ⟨_, rfl, ?_⟩)
    rw [f12, if_pos (show Int32.ofNat 0 = 0 from rfl)]
    exact xm_pi_i (H _ _ _ _ _ _ _ hI)
  · obtain ⟨u1, rfl⟩ : ∃ u1, u = u1 + 1 := ⟨u - 1, by omega⟩
    have hne : ¬ Int32.ofNat (u1 + 1) = 0 := fun q => absurd ((n_eq (q := 0) (by omega) (by omega)).mp q) (by omega)
    obtain ⟨o, a, hp, e54, e55, e17, e18, e19, v18, v19⟩ := hent d (by omega)
    have hx := plc_x c3 hp
    have ho : o ≤ 10 := by unfold plx at hx; omega
    have hmc := mC_ge (o := o)
    have hmc2 := hmc.2 ho
    rw [if_neg (fun q => absurd ((n_eq (by omega) (by omega)).mp q) (by omega))]
    refine ⟨_, rfl, _, rfl, _, rfl, eX2_stepOn (K := 4) (by omega) ⟨_, rfl⟩ ⟨_, rfl, _, rfl, ?_⟩⟩
    rw [f3, f4, if_pos ((n_lt (by omega) (by omega)).mpr (by omega))]
    refine ⟨_, rfl, Int32.ofNat d, by rw [← f3]; rfl, _, ln_17 (by omega), _, rfl, Int32.ofNat d, by rw [← f3]; rfl, _, ln_19 (by omega), ?_⟩
    rw [e17]
    refine c_layN (by omega) (cel_lt hx) ⟨Int32.ofNat d, by rw [← f3]; rfl, _, p_16_3, xm_pv_i ?_⟩
    rw [n_succ]
    refine ⟨_, rfl, Int32.ofNat (d + (u1 + 1)), by rw [← f4]; rfl, _, rfl, Int32.ofNat (d + 1), rfl, xm_pi_i ?_⟩
    have es : Int32.ofNat (d + (u1 + 1)) - Int32.ofNat (d + 1) = Int32.ofNat u1 := by
      rw [show d + (u1 + 1) = u1 + (d + 1) by omega, ← n_add]
      exact Int32.add_sub_cancel _ _
    rw [es]
    refine eX9_redo (K := 5) (by omega) ⟨_, rfl⟩ ⟨Int32.ofNat (u1 + 1), by rw [← f12]; rfl, ?_⟩
    rw [if_neg hne]
    refine ⟨_, rfl, Int32.ofNat d, by rw [← f11]; rfl, _, ln_54 (by omega), _, rfl, Int32.ofNat d, by rw [← f11]; rfl, _, ln_55 (by omega), _, rfl, Int32.ofNat d, by rw [← f11]; rfl, _, ln_57 (by omega), ?_⟩
    rw [show va_up A 2 (upd (A 2) (cel o a) (A 19 d)) 54 d = Int32.ofNat o from e54, show va_up A 2 (upd (A 2) (cel o a) (A 19 d)) 55 d = Int32.ofNat a from e55, show va_up A 2 (upd (A 2) (cel o a) (A 19 d)) 57 d = A 19 d from e19.symm]
    refine m_lays (by omega) hx ⟨Int32.ofNat d, by rw [← f11]; rfl, _, p_44_11, Int32.ofNat (u1 + 1), by rw [← f12]; rfl, _, p_44_12, ?_⟩
    rw [n_pred, n_succ]
    refine ⟨Int32.ofNat u1, rfl, xm_pi_i (H _ _ _ _ n nb tc (hI.chg (d' := d + 1) (u' := u1) (v := A 19 d) hp v19 ?_ ?_ ?_ ?_ ?_ ?_))⟩
    · rw [u_ne (by omega), u_eq]
    · rw [u_eq, u_ne (by omega)]
    · intro k k1 k2; rw [u_ne k2, u_ne k1]
    · intro k k1 k2; rw [u_ne k2, u_ne k2, u_ne k1]
    · intro k k1 k2; rw [u_eq, u_ne k2, u_eq, u_ne k1, u_ne (by omega)]
    · refine ChR.re (d := d) (u := u1 + 1) (d' := d + 1) (u' := u1) hent (fun k hk => ?_) hdu (by omega) rfl f4 rfl rfl
      simp at hk
      rw [u_ne (by omega), u_ne (by omega)]
end DDD
