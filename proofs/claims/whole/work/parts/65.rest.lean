section RST
variable {A : Nat → Nat → Int32} {L : Nat → Nat → Int64} {F : Nat → Nat → Int32} {g : Int32 → xm_H → Prop} {gv : xm_H → Prop} {w n p k j y e m r K : Nat} {x v z : Int32} {h : xm_H} {tc : (Nat → Int32) → Int32} {c : Nat → Int32}
/-! rows of habits -/
def dg (n r q : Nat) : Nat := r / 4 ^ (n - 1 - q) % 4
theorem dg_lt : dg n r k < 4 := Nat.mod_lt _ (by omega)
def rpl (n r q hb : Nat) : Nat := r - dg n r q * 4 ^ (n - 1 - q) + hb * 4 ^ (n - 1 - q)
def rwC (c : Nat → Int32) (n r : Nat) : Nat → Int32 := fun k => if 24 ≤ k ∧ k < 24 + n then Int32.ofNat (dg n r (k - 24)) else c k
theorem rwC_on (hp : p < n) : rwC c n r (24 + p) = Int32.ofNat (dg n r p) := by
  unfold rwC
  rw [if_pos ⟨by omega, by omega⟩, show 24 + p - 24 = p by omega]
theorem rwC_off (hk : ¬ (24 ≤ k ∧ k < 24 + n)) : rwC c n r k = c k := if_neg hk
theorem n_rows : ∀ n, n ≤ 4 → (1 : Int32) <<< (((2 : Int32) * Int32.ofNat n) &&& 31) = Int32.ofNat (4 ^ n) := by decide +kernel
theorem n_dg : ∀ n, n < 5 → ∀ r, r < 256 → ∀ q, q < 4 → q < n → (Int32.ofNat r >>> (((2 : Int32) * ((Int32.ofNat n - (1 : Int32)) - Int32.ofNat q)) &&& 31)) &&& (3 : Int32) = Int32.ofNat (dg n r q) := by decide +kernel
theorem n_rpl : ∀ n, n < 5 → ∀ r, r < 4 ^ n → ∀ q, q < n → ∀ hb, hb < 4 → ((Int32.ofNat r &&& (((3 : Int32) <<< (((2 : Int32) * ((Int32.ofNat n - (1 : Int32)) - Int32.ofNat q)) &&& 31)) ^^^ (-1 : Int32))) ||| (Int32.ofNat hb <<< (((2 : Int32) * ((Int32.ofNat n - (1 : Int32)) - Int32.ofNat q)) &&& 31)) = Int32.ofNat (rpl n r q hb)) ∧ rpl n r q hb < 4 ^ n ∧ ∀ i, i < n → dg n (rpl n r q hb) i = if i = q then hb else dg n r i := by decide +kernel
theorem rwC_rpl (hn : n ≤ 4) (hr : r < 4 ^ n) (hp : p < n) (hb : e < 4) : rwC c n (rpl n r p e) = upd (rwC c n r) (24 + p) (Int32.ofNat e) := by
  have h := (n_rpl n (by omega) r hr p hp e hb).2.2
  funext k
  by_cases hk : 24 ≤ k ∧ k < 24 + n
  · obtain ⟨q, rfl⟩ : ∃ q, k = 24 + q := ⟨k - 24, by omega⟩
    rw [rwC_on (by omega), h q (by omega)]
    by_cases hq : q = p
    · subst hq; rw [if_pos rfl, p_eq]
    · rw [if_neg hq, p_ne (by omega), rwC_on (by omega)]
  · rw [rwC_off hk, p_ne (by omega), rwC_off hk]
theorem four4 (hn : n ≤ 4) : 4 ^ n ≤ 256 := Nat.le_trans (Nat.pow_le_pow_right (by omega) hn) (by decide)
/-- the row r of habits is at rest -/
def rsP (tc : (Nat → Int32) → Int32) (c : Nat → Int32) (n y : Nat) (r : Nat) : Prop := rstS tc (rwC c n r) n y
noncomputable def cR (P : Nat → Prop) : Nat → Nat
  | 0 => 0
  | m + 1 => cR P m + @ite Nat (P m) (Classical.propDecidable _) 1 0
theorem cR_t {P : Nat → Prop} (h : P m) : cR P (m + 1) = cR P m + 1 := by show _ + _ = _; rw [if_pos h]
theorem cR_f {P : Nat → Prop} (h : ¬ P m) : cR P (m + 1) = cR P m := by show _ + _ = _; rw [if_neg h]; rfl
theorem cR_le {P : Nat → Prop} : ∀ m, cR P m ≤ m
  | 0 => Nat.le_refl _
  | m + 1 => by
    have := cR_le (P := P) m
    by_cases h : P m
    · rw [cR_t h]; omega
    · rw [cR_f h]; omega
theorem cR_0 {P : Nat → Prop} : ∀ m, cR P m = 0 → ∀ r, r < m → ¬ P r
  | 0, _, r, hr => absurd hr (by omega)
  | m + 1, h0, r, hr => by
    by_cases h : P m
    · rw [cR_t h] at h0; omega
    · rw [cR_f h] at h0
      by_cases hrm : r = m
      · subst hrm; exact h
      · exact cR_0 m h0 r (by omega)
theorem cR_n {P : Nat → Prop} : ∀ m, (∀ r, r < m → ¬ P r) → cR P m = 0
  | 0, _ => rfl
  | m + 1, h => by rw [cR_f (h m (by omega))]; exact cR_n m (fun r hr => h r (by omega))
/-! the class -/
theorem c_placeIn (hK : 0 < K) (hn : F 1 1 = Int32.ofNat n) (H : g ((2 : Int32) * ((Int32.ofNat n - (1 : Int32)) - x)) (HP A L F)) : xm_Call K sX8_placeIn 8 [.ref 0, .int x] (HP A L F) (xm_pi g) := by
  refine eX8_placeIn (K := 0) hK ⟨_, rfl⟩ ⟨_, rfl, _, rfl, xm_pi_i ?_⟩
  rw [hn]; exact H
theorem c_habitIn (hK : 1 < K) (hn : F 1 1 = Int32.ofNat n) (h4 : n ≤ 4) (hr : r < 256) (hp : p < n) (H : g (Int32.ofNat (dg n r p)) (HP A L F)) : xm_Call K sX8_habitIn 8 [.ref 0, .int (Int32.ofNat r), .int (Int32.ofNat p)] (HP A L F) (xm_pi g) := by
  refine eX8_habitIn (K := 1) hK ⟨_, rfl⟩ (c_placeIn (by omega) hn (xm_pi_i ?_))
  rw [n_dg n (by omega) r hr p (by omega) hp]; exact H
theorem n_wi (r p : Nat) : Int32.ofNat r * (4 : Int32) + Int32.ofNat p = Int32.ofNat (4 * r + p) := by
  rw [show (4 : Int32) = Int32.ofNat 4 from rfl, n_mul, n_add, Nat.mul_comm]
theorem c_setWorthIn (hK : 0 < K) (hr : r < 256) (hp : p < 4) (H : gv (HP (va_up A 24 (upd (A 24) (4 * r + p) x)) L F)) : xm_Call K sX8_setWorthIn 8 [.ref 0, .int (Int32.ofNat r), .int (Int32.ofNat p), .int x] (HP A L F) (xm_pv gv) := by
  refine eX8_setWorthIn (K := 0) hK ⟨_, rfl⟩ ?_
  rw [n_wi, if_neg (xs_nn (by omega))]
  refine ⟨_, rfl, _, rfl, ?_⟩
  rw [if_pos (show Int32.ofNat (4 * r + p) < Int32.ofNat 1024 from (n_lt (by omega) (by omega)).mpr (by omega))]
  exact ⟨_, rfl, _, sn_24 (by omega), xm_pv_i H⟩
theorem c_worthIn (hK : 0 < K) (hr : r < 256) (hp : p < 4) (H : g (A 24 (4 * r + p)) (HP A L F)) : xm_Call K sX8_worthIn 8 [.ref 0, .int (Int32.ofNat r), .int (Int32.ofNat p)] (HP A L F) (xm_pi g) := by
  refine eX8_worthIn (K := 0) hK ⟨_, rfl⟩ ?_
  rw [n_wi, if_neg (xs_nn (by omega))]
  refine ⟨_, rfl, _, rfl, ?_⟩
  rw [if_pos (show Int32.ofNat (4 * r + p) < Int32.ofNat 1024 from (n_lt (by omega) (by omega)).mpr (by omega))]
  exact ⟨_, rfl, _, ln_24 (by omega), xm_pi_i H⟩
/-- the worths of the rows below R stand -/
def WtR (tc : (Nat → Int32) → Int32) (c : Nat → Int32) (n y : Nat) (f : Nat → Int32) (R : Nat) : Prop := ∀ r, r < R → ∀ q, q < n → f (4 * r + q) = wrt tc (rwC c n r) n y q
set_option maxHeartbeats 1000000 in
theorem c_fillWorths (hK : 7 < K) (hN : NowOk A F tc n y) (h4 : n ≤ 4) (H : ∀ A' F', Sc A F A' F' → WtR tc (A 2) n y (A' 24) (4 ^ n) → gv (HP A' L F')) : xm_Call K sX8_fillWorths 8 [.ref 0, .int (Int32.ofNat (4 ^ n))] (HP A L F) (xm_pv gv) := by
  have h256 := four4 h4
  refine eX8_fillWorths (K := 7) hK ⟨_, rfl⟩ ⟨_, rfl, _, rfl, c_copyT (by omega) hN.2.2.1 hN.2.2.2 ?_⟩
  refine xm_for (n := 4 ^ n) (Q := fun r h => xm_L 7 sX8_fillWorths kX8_fillWorths 7 [some (.ref 0), some (.int (Int32.ofNat (4 ^ n))), some (.int (Int32.ofNat r)), none] [] h (xm_pv gv)) (fun r h => ∃ A' F' d, h = HP A' L F' ∧ Sc A F A' F' ∧ A' 4 = d ∧ WOk A' F' 3 n y ∧ (∀ k, ¬ (24 ≤ k ∧ k < 24 + n) → d k = A 2 k) ∧ WtR tc (A 2) n y (A' 24) r) ?_ ?_ 0 _ (Nat.zero_le _) ?_
  · rintro r h hr ⟨A1, F1, d, rfl, s1, e4, w1, hd, hW⟩ ih
    refine xX8_fillWorths_7 ?_
    rw [if_pos ((n_lt (by omega) (by omega)).mpr hr)]
    have key := xm_for (n := n) (Q := fun p h => xm_L 7 sX8_fillWorths kX8_fillWorths 12 [some (.ref 0), some (.int (Int32.ofNat (4 ^ n))), some (.int (Int32.ofNat r)), some (.int (Int32.ofNat p))] [] h (xm_pv gv)) (fun p h => ∃ A' F' d, h = HP A' L F' ∧ Sc A F A' F' ∧ A' 4 = d ∧ WOk A' F' 3 n y ∧ (∀ k, ¬ (24 ≤ k ∧ k < 24 + n) → d k = A 2 k) ∧ (∀ q, q < p → d (24 + q) = Int32.ofNat (dg n r q)) ∧ WtR tc (A 2) n y (A' 24) r) ?_ ?_ 0 _ (Nat.zero_le _) ⟨A1, F1, d, rfl, s1, e4, w1, hd, fun q hq => absurd hq (by omega), hW⟩
    · exact key
    · rintro p h hp ⟨A2, F2, d2, rfl, s2, f4, w2, hd2, hq2, hW2⟩ ih2
      have hn : F2 1 1 = Int32.ofNat n := (s2.now hN).1.2.1
      refine xX8_fillWorths_12 ⟨_, rfl, _, rfl, ?_⟩
      rw [hn, if_pos ((n_lt (by omega) (by omega)).mpr hp), n_succ]
      refine ⟨_, rfl, c_habitIn (by omega) hn h4 (by omega) hp (c_set (k := 3) (by omega) w2.1 w2.2.1 w2.2.2.1 hp (by omega) ?_)⟩
      obtain ⟨B, G, hh, sB, eB, wB⟩ := ThI_upd (L := L) (k := 24 + p) (x := Int32.ofNat (dg n r p)) s2 f4 w2 (by omega) (by omega) (by omega)
      refine ih2 _ ⟨_, _, upd d2 (24 + p) (Int32.ofNat (dg n r p)), rfl, s2.tr ⟨Ag.up Ag.rf (by simp), Ag.rf, ?_⟩, ?_, ?_, fun k hk => by rw [p_ne (by omega)]; exact hd2 k hk, fun q hq => ?_, ?_⟩
      · show Zr (va_up A2 4 _ 4)
        rw [u_eq]; exact s2.2.2.up (by omega)
      · show va_up A2 4 _ 4 = _
        rw [u_eq]; show upd (A2 4) (24 + p) _ = _; rw [f4]
      · obtain ⟨a1, a2, a3, a4, a5, a6⟩ := w2
        refine ⟨a1, a2, a3, a4, ?_, fun q hq => ?_⟩
        · rw [u_eq, p_ne (by omega)]; exact a5
        · rw [u_eq, p_ne (by omega)]; exact a6 q hq
      · exact fill2 (f := fun q => d2 (24 + q)) (p := p) (v := Int32.ofNat (dg n r p)) hq (fun z => hq2 q z) (fun z => by rw [z]) ▸ (by
          by_cases hqp : q = p
          · subst hqp; rw [p_eq]; show _ = upd (fun q => d2 (24 + q)) q _ q; rw [p_eq]
          · rw [p_ne (by omega)]; show _ = upd (fun q => d2 (24 + q)) p _ q; rw [p_ne hqp])
      · rw [u_ne (by omega)]; exact hW2
    · rintro h ⟨A2, F2, d2, rfl, s2, f4, w2, hd2, hq2, hW2⟩
      have hn : F2 1 1 = Int32.ofNat n := (s2.now hN).1.2.1
      refine xX8_fillWorths_12 ⟨_, rfl, _, rfl, ?_⟩
      rw [hn, if_neg (n_ge (by omega) (by omega) (Nat.le_refl _))]
      have hdr : d2 = rwC (A 2) n r := by
        funext k
        by_cases hk : 24 ≤ k ∧ k < 24 + n
        · obtain ⟨q, rfl⟩ : ∃ q, k = 24 + q := ⟨k - 24, by omega⟩
          rw [rwC_on (by omega), hq2 q (by omega)]
        · rw [rwC_off hk, hd2 k hk]
      refine ⟨_, rfl, _, rfl, c_reckon (tc := tc) (by omega) w2 (s2.now hN).2.1 (fun A3 F3 a1 a2 _ a4 => ?_)⟩
      have e43 : A3 4 = rwC (A 2) n r := by rw [a1 4 (by simp), f4, hdr]
      have a4' : RkR tc (rwC (A 2) n r) n y (earsOf (rwC (A 2) n r) n) A3 F3 := by
        have e5 : A2 (3 + 1) = rwC (A 2) n r := by show A2 4 = _; rw [f4, hdr]
        rw [e5] at a4; exact a4
      have s3 : Sc A F A3 F3 := s2.tr ⟨a1.mono (fun k hk => by simp at hk ⊢; omega), a2.mono (fun k hk => by simp at hk ⊢; omega), by rw [a1 4 (by simp)]; exact s2.2.2⟩
      have w3 : WOk A3 F3 3 n y := w2.to a1 a2 (by simp) (by simp)
      have key2 := xm_for (n := n) (Q := fun p h => xm_L 7 sX8_fillWorths kX8_fillWorths 35 [some (.ref 0), some (.int (Int32.ofNat (4 ^ n))), some (.int (Int32.ofNat r)), some (.int (Int32.ofNat p))] [] h (xm_pv gv)) (fun p h => ∃ f, h = HP (va_up A3 24 f) L F3 ∧ WtR tc (A 2) n y f r ∧ ∀ q, q < p → f (4 * r + q) = wrt tc (rwC (A 2) n r) n y q) ?_ ?_ 0 (HP A3 L F3) (Nat.zero_le _) ⟨A3 24, by rw [show va_up A3 24 (A3 24) = A3 from funext (fun k => by by_cases hk : k = 24 <;> simp [va_up, hk])], by rw [a1 24 (by simp)]; exact hW2, fun q hq => absurd hq (by omega)⟩
      · exact key2
      · rintro p h hp ⟨f, rfl, hf, hf2⟩ ih3
        have hn3 : F3 1 1 = Int32.ofNat n := (s3.now hN).1.2.1
        refine xX8_fillWorths_35 ⟨_, rfl, _, rfl, ?_⟩
        rw [hn3, if_pos ((n_lt (by omega) (by omega)).mpr hp), n_succ]
        have w4 : WOk (va_up A3 24 f) F3 3 n y := w3.to (Ag.up (S := [24]) Ag.rf (by simp)) (Ag.rf (S := [])) (by simp) (by simp)
        refine ⟨_, rfl, _, rfl, c_worthOf (n := n) (y := y) (by omega) w4 hp ?_⟩
        have e6 : gainS (va_up A3 24 f (3 + 1)) y p (va_up A3 24 f (3 + 1) (24 + p)) - va_up A3 24 f 12 p = wrt tc (rwC (A 2) n r) n y p := by
          rw [u_ne (show (3 : Nat) + 1 ≠ 24 by omega), u_ne (show (12 : Nat) ≠ 24 by omega), show (3 : Nat) + 1 = 4 from rfl, e43, a4'.2.2.1 p (by omega)]; rfl
        rw [e6]
        refine c_setWorthIn (by omega) (by omega) (by omega) ?_
        rw [u_eq, up2]
        refine ih3 _ ⟨_, rfl, fun r' hr' q hq => ?_, fun q hq => ?_⟩
        · rw [p_ne (by omega)]; exact hf r' hr' q hq
        · by_cases hqp : q = p
          · subst hqp; rw [p_eq]
          · rw [p_ne (by omega)]; exact hf2 q (by omega)
      · rintro h ⟨f, rfl, hf, hf2⟩
        have hn3 : F3 1 1 = Int32.ofNat n := (s3.now hN).1.2.1
        refine xX8_fillWorths_35 ⟨_, rfl, _, rfl, ?_⟩
        rw [hn3, if_neg (n_ge (by omega) (by omega) (Nat.le_refl _)), n_succ]
        refine ih _ ⟨_, _, rwC (A 2) n r, rfl, s3.tr ⟨Ag.up Ag.rf (by simp), Ag.rf, by rw [u_ne (by omega)]; exact s3.2.2⟩, by rw [u_ne (by omega)]; exact e43, w3.to (Ag.up (S := [24]) Ag.rf (by simp)) (Ag.rf (S := [])) (by simp) (by simp), fun k hk => rwC_off hk, ?_⟩
        rw [u_eq]
        intro r' hr' q hq
        by_cases hrr : r' = r
        · subst hrr; exact hf2 q hq
        · exact hf r' (by omega) q hq
  · rintro h ⟨A1, F1, d, rfl, s1, e4, w1, hd, hW⟩
    refine xX8_fillWorths_7 ?_
    rw [if_neg (n_ge (by omega) (by omega) (Nat.le_refl _))]
    exact xm_pv_i (H A1 F1 s1 hW)
  · obtain ⟨A1, F1, hh, s1, e4, w1⟩ := ThI.start (L := L) hN
    exact ⟨_, _, A 2, rfl, ⟨Ag.up Ag.rf (by simp), Ag.up Ag.rf (by simp), by rw [u_eq]; exact hN.2.2.1⟩, u_eq, wok_th hN rfl (fun _ _ => rfl), fun _ _ => rfl, fun r hr => absurd hr (by omega)⟩
theorem c_isRowAtRest (hK : 1 < K) (hn : F 1 1 = Int32.ofNat n) (h4 : n ≤ 4) (hW : WtR tc c n y (A 24) (4 ^ n)) (hr : r < 4 ^ n) (H1 : rsP tc c n y r → g 1 (HP A L F)) (H0 : ¬ rsP tc c n y r → g 0 (HP A L F)) : xm_Call K sX8_isRowAtRest 8 [.ref 0, .int (Int32.ofNat r)] (HP A L F) (xm_pi g) := by
  have h256 := four4 h4
  refine eX8_isRowAtRest (K := 1) hK ⟨_, rfl⟩ ?_
  refine xm_for (n := n) (Q := fun p h => xm_L 1 sX8_isRowAtRest kX8_isRowAtRest 2 [some (.ref 0), some (.int (Int32.ofNat r)), some (.int (Int32.ofNat p)), none, none, none] [] h (xm_pi g)) (fun p h => h = HP A L F ∧ ∀ i, i < p → ∀ q, q < 4 → ¬ wrt tc (rwC c n r) n y i < wrtH tc (rwC c n r) n y i q) ?_ ?_ 0 _ (Nat.zero_le _) ⟨rfl, fun i hi => absurd hi (by omega)⟩
  · rintro p h hp ⟨rfl, hI⟩ ih
    refine xX8_isRowAtRest_2 ⟨_, rfl, _, rfl, ?_⟩
    rw [hn, if_pos ((n_lt (by omega) (by omega)).mpr hp)]
    refine c_placeIn (by omega) hn (c_worthIn (by omega) (by omega) (by omega) ?_)
    rw [hW r hr p hp]
    have key := xm_for (n := 4) (Q := fun q h => xm_L 1 sX8_isRowAtRest kX8_isRowAtRest 24 [some (.ref 0), some (.int (Int32.ofNat r)), some (.int (Int32.ofNat p)), some (.int (Int32.ofNat r &&& (((3 : Int32) <<< (((2 : Int32) * ((Int32.ofNat n - (1 : Int32)) - Int32.ofNat p)) &&& 31)) ^^^ (-1 : Int32)))), some (.int (wrt tc (rwC c n r) n y p)), some (.int (Int32.ofNat q))] [] h (xm_pi g)) (fun q h => h = HP A L F ∧ ∀ i, i < q → ¬ wrt tc (rwC c n r) n y p < wrtH tc (rwC c n r) n y p i) ?_ ?_ 0 _ (Nat.zero_le _) ⟨rfl, fun i hi => absurd hi (by omega)⟩
    · exact key
    · rintro q h hq ⟨rfl, hJ⟩ ih2
      refine xX8_isRowAtRest_24 ?_
      rw [if_pos (show Int32.ofNat q < (4 : Int32) from (n_lt (q := 4) (by omega) (by omega)).mpr hq)]
      refine c_placeIn (by omega) hn ?_
      obtain ⟨k1, k2, k3⟩ := n_rpl n (by omega) r hr p hp q hq
      rw [k1, n_succ]
      refine c_worthIn (by omega) (by omega) (by omega) ?_
      rw [hW _ k2 p hp, rwC_rpl h4 hr hp hq]
      show (if wrt tc (rwC c n r) n y p < wrtH tc (rwC c n r) n y p q then _ else _)
      by_cases hc : wrt tc (rwC c n r) n y p < wrtH tc (rwC c n r) n y p q
      · rw [if_pos hc]; exact xm_pi_i (H0 (fun z => z p hp q hq hc))
      · rw [if_neg hc]
        refine ih2 _ ⟨rfl, fun i hi => ?_⟩
        by_cases hiq : i = q
        · subst hiq; exact hc
        · exact hJ i (by omega)
    · rintro h ⟨rfl, hJ⟩
      refine xX8_isRowAtRest_24 ?_
      rw [if_neg (by decide), n_succ]
      refine ih _ ⟨rfl, fun i hi => ?_⟩
      by_cases hip : i = p
      · subst hip; exact hJ
      · exact hI i (by omega)
  · rintro h ⟨rfl, hI⟩
    refine xX8_isRowAtRest_2 ⟨_, rfl, _, rfl, ?_⟩
    rw [hn, if_neg (n_ge (by omega) (by omega) (Nat.le_refl _))]
    exact xm_pi_i (H1 hI)
def okR (n : Nat) (x : Int32) : Prop := x = -1 ∨ (¬ x < 0 ∧ x < Int32.ofNat n)
/-- what rest(x) is to say -/
def rsG (tc : (Nat → Int32) → Int32) (c : Nat → Int32) (n y : Nat) (x : Int32) (G : Int32 → Prop) : Prop :=
  (x = -1 → G (Int32.ofNat (cR (rsP tc c n y) (4 ^ n)))) ∧ ∀ p, p < n → x = Int32.ofNat p → (∀ r, r < 4 ^ n → rsP tc c n y r → (∀ i, i < r → ¬ rsP tc c n y i) → G (Int32.ofNat (dg n r p))) ∧ ((∀ r, r < 4 ^ n → ¬ rsP tc c n y r) → G (-2))
theorem nn1 (hp : p < 2147483648) : ¬ Int32.ofNat p = -1 := fun q => by
  have h4 : ¬ Int32.ofNat p < 0 := xs_nn hp
  rw [q] at h4
  exact h4 (by decide)
theorem q_rest (hK : 8 < K) (hN : NowOk A F tc n y) (H : okR n x → n ≤ 4 → ∀ A' F', Sc A F A' F' → rsG tc (A 2) n y x (fun v => g v (HP A' L F'))) (H3 : okR n x → ¬ n ≤ 4 → g (-5) (HP A L F)) (H2 : ¬ okR n x → g (-1) (HP A L F)) : xm_Call K sX8_rest 8 [.ref 0, .int x] (HP A L F) (xm_pi g) := by
  have hn8 := hN.1.2.2.1
  have loop : okR n x → n ≤ 4 → xm_Call 8 sX8_fillWorths 8 [.ref 0, .int (Int32.ofNat (4 ^ n))] (HP A L F) (xm_pv fun h5 => xm_L 8 sX8_rest kX8_rest 32 [some (.ref 0), some (.int x), some (.int (Int32.ofNat (4 ^ n))), some (.int (0 : Int32)), some (.int (0 : Int32))] [] h5 (xm_pi g)) := by
    intro ok h4
    have h256 := four4 h4
    refine c_fillWorths (by omega) hN h4 (fun A1 F1 s1 hW => ?_)
    have hn : F1 1 1 = Int32.ofNat n := (s1.now hN).1.2.1
    have hh := H ok h4 A1 F1 s1
    rcases ok with hx | ⟨hx0, hxn⟩
    · have hneg : x < 0 := by rw [hx]; decide
      refine xm_for (n := 4 ^ n) (Q := fun r h => xm_L 8 sX8_rest kX8_rest 32 [some (.ref 0), some (.int x), some (.int (Int32.ofNat (4 ^ n))), some (.int (Int32.ofNat (cR (rsP tc (A 2) n y) r))), some (.int (Int32.ofNat r))] [] h (xm_pi g)) (fun _ h => h = HP A1 L F1) ?_ ?_ 0 _ (Nat.zero_le _) rfl
      · rintro r h hr rfl ih
        have hi := ih _ rfl
        refine xX8_rest_32 ?_
        rw [if_pos ((n_lt (by omega) (by omega)).mpr hr)]
        refine c_isRowAtRest (tc := tc) (c := A 2) (y := y) (by omega) hn h4 hW hr (fun hp => ?_) (fun hp => ?_)
        · rw [if_neg (by decide), if_pos hneg, n_succ, n_succ]
          rw [cR_t hp] at hi; exact hi
        · rw [if_pos rfl, n_succ]
          rw [cR_f hp] at hi; exact hi
      · rintro h rfl
        refine xX8_rest_32 ?_
        rw [if_neg (n_ge (by omega) (by omega) (Nat.le_refl _)), if_pos hneg]
        exact xm_pi_i (hh.1 hx)
    · obtain ⟨p, hp, he⟩ := n_of (by omega) hx0 hxn
      have hg := hh.2 p hp he
      refine xm_for (n := 4 ^ n) (Q := fun r h => xm_L 8 sX8_rest kX8_rest 32 [some (.ref 0), some (.int x), some (.int (Int32.ofNat (4 ^ n))), some (.int (0 : Int32)), some (.int (Int32.ofNat r))] [] h (xm_pi g)) (fun r h => h = HP A1 L F1 ∧ ∀ i, i < r → ¬ rsP tc (A 2) n y i) ?_ ?_ 0 _ (Nat.zero_le _) ⟨rfl, fun i hi => absurd hi (by omega)⟩
      · rintro r h hr ⟨rfl, hno⟩ ih
        refine xX8_rest_32 ?_
        rw [if_pos ((n_lt (by omega) (by omega)).mpr hr)]
        refine c_isRowAtRest (tc := tc) (c := A 2) (y := y) (by omega) hn h4 hW hr (fun hpr => ?_) (fun hpr => ?_)
        · rw [if_neg (by decide), if_neg hx0, he]
          exact c_habitIn (by omega) hn h4 (by omega) hp (xm_pi_i (hg.1 r hr hpr hno))
        · rw [if_pos rfl, n_succ]
          refine ih _ ⟨rfl, fun i hi => ?_⟩
          by_cases hir : i = r
          · subst hir; exact hpr
          · exact hno i (by omega)
      · rintro h ⟨rfl, hno⟩
        refine xX8_rest_32 ?_
        rw [if_neg (n_ge (by omega) (by omega) (Nat.le_refl _)), if_neg hx0]
        exact xm_pi_i (hg.2 hno)
  have hn := hN.1.2.1
  have d4 : ∀ h4 : ¬ n ≤ 4, (4 : Int32) < Int32.ofNat n := fun h4 => (n_lt (p := 4) (by omega) (by omega)).mpr (by omega)
  have d5 : ∀ h4 : n ≤ 4, ¬ (4 : Int32) < Int32.ofNat n := fun h4 => n_ge (p := 4) (by omega) (by omega) h4
  refine eX8_rest (K := 8) hK ⟨_, rfl⟩ ?_
  by_cases hx : x = -1
  · rw [if_pos hx]
    refine ⟨_, rfl, _, w_people (Or.inl rfl), ?_⟩
    rw [hn]
    by_cases h4 : n ≤ 4
    · rw [if_neg (d5 h4)]
      refine ⟨_, rfl, _, w_people (Or.inl rfl), ?_⟩
      rw [hn, n_rows n h4]
      exact loop (Or.inl hx) h4
    · rw [if_pos (d4 h4)]; exact xm_pi_i (H3 (Or.inl hx) h4)
  · rw [if_neg hx]
    refine ⟨_, rfl, c_has (n := n) (by omega) hN.1.1 hN.1.2.1 hn8 (fun p hp he => ?_) (fun q => ?_)⟩
    · rw [if_neg (by decide)]
      have ok : okR n x := Or.inr ⟨by rw [he]; exact xs_nn (by omega), by rw [he]; exact (n_lt (by omega) (by omega)).mpr hp⟩
      refine ⟨_, rfl, _, w_people (Or.inl rfl), ?_⟩
      rw [hn]
      by_cases h4 : n ≤ 4
      · rw [if_neg (d5 h4)]
        refine ⟨_, rfl, _, w_people (Or.inl rfl), ?_⟩
        rw [hn, n_rows n h4]
        exact loop ok h4
      · rw [if_pos (d4 h4)]; exact xm_pi_i (H3 ok h4)
    · rw [if_pos rfl]
      refine xm_pi_i (H2 (fun ok => ?_))
      rcases ok with b | ⟨b1, b2⟩
      · exact hx b
      · exact q.elim b1 (fun z => z b2)
end RST
