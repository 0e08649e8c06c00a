section SHB
variable {A : Nat → Nat → Int32} {L : Nat → Nat → Int64} {F : Nat → Nat → Int32} {gv : xm_H → Prop} {w n p k j y e m r o a d u K nb km s i t b : Nat} {x x1 x2 x3 x4 x5 v z : Int32} {h : xm_H} {tc : (Nat → Int32) → Int32} {c : Nat → Int32} {q : Int64}
theorem m2_t : ∀ t : Nat, t ≤ 4 → ((-2 : Int32) - Int32.ofNat t ≠ -1 ∧ (-2 : Int32) - Int32.ofNat t < 0 ∧ (-2 : Int32) - (-2 - Int32.ofNat t) = Int32.ofNat t ∧ Int32.ofNat t ≠ -1 ∧ Int32.ofNat t ≠ 5) := by decide +kernel
theorem m2_inj : ∀ t u : Nat, t ≤ 4 → u ≤ 4 → ((-2 : Int32) - Int32.ofNat t = -2 - Int32.ofNat u ↔ t = u) := by
  have : ∀ t, t ≤ 4 → ∀ u, u ≤ 4 → ((-2 : Int32) - Int32.ofNat t = -2 - Int32.ofNat u ↔ t = u) := by decide +kernel
  exact fun t u h1 h2 => this t h1 u h2
theorem b50 : ∀ b : Nat, b < 50 → (Int32.ofNat b ≠ -1 ∧ ¬ Int32.ofNat b < 0) := by decide +kernel
/-! why there is no place -/
theorem c_ref_a {g : Int32 → xm_H → Prop} (hK : 0 < K) (hs : s < 6) (h0 : F (32 + 2 * s) 0 = -1) (H : g (-11) (HP A L F)) : xm_Call K sX5_refusalAt 5 [.ref (32 + 2 * s), .int x] (HP A L F) (xm_pi g) := by
  refine eX5_refusalAt (K := 0) hK (sh_obj hs) ⟨_, sh_f0 hs, ?_⟩
  rw [if_pos h0]; exact xm_pi_i H
theorem c_ref_b {g : Int32 → xm_H → Prop} (hK : 0 < K) (hs : s < 6) (h0 : F (32 + 2 * s) 0 = 5) (H : g (-12) (HP A L F)) : xm_Call K sX5_refusalAt 5 [.ref (32 + 2 * s), .int x] (HP A L F) (xm_pi g) := by
  refine eX5_refusalAt (K := 0) hK (sh_obj hs) ⟨_, sh_f0 hs, ?_⟩
  rw [h0, if_neg (by decide)]
  refine ⟨_, sh_f0 hs, ?_⟩
  rw [if_pos h0]; exact xm_pi_i H
theorem c_ref_c {g : Int32 → xm_H → Prop} (hK : 0 < K) (hs : s < 6) (ht : t ≤ 4) (hi : i ≤ 60) (h0 : F (32 + 2 * s) 0 = Int32.ofNat t) (h2 : F (32 + 2 * s) 2 = Int32.ofNat i) (H : ∀ k, k < i → x = Int32.ofNat k → g 0 (HP A L F)) (H2 : (x < 0 ∨ ¬ x < Int32.ofNat i) → g (-13) (HP A L F)) : xm_Call K sX5_refusalAt 5 [.ref (32 + 2 * s), .int x] (HP A L F) (xm_pi g) := by
  have m := m2_t t ht
  refine eX5_refusalAt (K := 0) hK (sh_obj hs) ⟨_, sh_f0 hs, ?_⟩
  rw [h0, if_neg m.2.2.2.1]
  refine ⟨_, sh_f0 hs, ?_⟩
  rw [h0, if_neg m.2.2.2.2]
  by_cases hx : x < 0
  · rw [if_pos hx]; exact xm_pi_i (H2 (Or.inl hx))
  rw [if_neg hx]
  refine ⟨_, sh_f2 hs, ?_⟩
  rw [h2]
  by_cases hx2 : x < Int32.ofNat i
  · rw [if_pos hx2]
    obtain ⟨k, hk, he⟩ := n_of (by omega) hx hx2
    exact xm_pi_i (H k hk he)
  · rw [if_neg hx2]; exact xm_pi_i (H2 (Or.inr hx2))
theorem m_why_n {g : Int32 → xm_H → Prop} (hK : 2 < K) (hb : x1 < 0 ∨ ¬ x1 < 6) (H : g (-1) (HP A L F)) : xm_Call K sX9_whyNoPlace 9 [.ref 44, .int x1, .int x] (HP A L F) (xm_pi g) := by
  refine eX9_whyNoPlace (K := 2) hK ⟨_, rfl⟩ (m_isShelf (by omega) (fun s' hs' he' => (no6 hs' he' hb).elim) (fun _ => ?_))
  rw [if_pos rfl]; exact xm_pi_i H
theorem m_why_a {g : Int32 → xm_H → Prop} (hK : 2 < K) (hs : s < 6) (h7 : A 77 s = -1) (H : g (-11) (HP A L F)) : xm_Call K sX9_whyNoPlace 9 [.ref 44, .int (Int32.ofNat s), .int x] (HP A L F) (xm_pi g) := by
  refine eX9_whyNoPlace (K := 2) hK ⟨_, rfl⟩ (m_isShelf (by omega) (fun s' hs' he' => ?_) (fun hb => (no6 hs rfl hb).elim))
  rw [if_neg (by decide)]
  refine ⟨_, rfl, _, ln_77 hs, ?_⟩
  rw [if_pos h7]; exact xm_pi_i H
theorem m_why_b {g : Int32 → xm_H → Prop} (hK : 2 < K) (hs : s < 6) (hb : b < 50) (h7 : A 77 s = Int32.ofNat b) (H : g (-12) (HP A L F)) : xm_Call K sX9_whyNoPlace 9 [.ref 44, .int (Int32.ofNat s), .int x] (HP A L F) (xm_pi g) := by
  refine eX9_whyNoPlace (K := 2) hK ⟨_, rfl⟩ (m_isShelf (by omega) (fun s' hs' he' => ?_) (fun hb => (no6 hs rfl hb).elim))
  rw [if_neg (by decide)]
  refine ⟨_, rfl, _, ln_77 hs, ?_⟩
  rw [h7, if_neg (b50 b hb).1]
  refine ⟨_, rfl, _, ln_77 hs, ?_⟩
  rw [h7, if_neg (b50 b hb).2]; exact xm_pi_i H
theorem m_why_c {g : Int32 → xm_H → Prop} (hK : 2 < K) (hs : s < 6) (ht : t ≤ 4) (hi : i ≤ 60) (h7 : A 77 s = -2 - Int32.ofNat t) (h8 : A 78 s = Int32.ofNat i) (H : ∀ k, k < i → x = Int32.ofNat k → g 0 (HP A L F)) (H2 : (x < 0 ∨ ¬ x < Int32.ofNat i) → g (-13) (HP A L F)) : xm_Call K sX9_whyNoPlace 9 [.ref 44, .int (Int32.ofNat s), .int x] (HP A L F) (xm_pi g) := by
  have m := m2_t t ht
  refine eX9_whyNoPlace (K := 2) hK ⟨_, rfl⟩ (m_isShelf (by omega) (fun s' hs' he' => ?_) (fun hb => (no6 hs rfl hb).elim))
  rw [if_neg (by decide)]
  refine ⟨_, rfl, _, ln_77 hs, ?_⟩
  rw [h7, if_neg m.1]
  refine ⟨_, rfl, _, ln_77 hs, ?_⟩
  rw [h7, if_pos m.2.1]
  refine ⟨_, rfl, _, ln_78 hs, ?_⟩
  rw [h8]
  refine m_upTo (by omega) (by omega) (fun k hk he => ?_) (fun hb => ?_)
  · rw [if_neg (by decide)]; exact xm_pi_i (H k hk he)
  · rw [if_pos rfl]; exact xm_pi_i (H2 hb)
theorem noI (hi : i ≤ 60) (hk : k < i) (he : x = Int32.ofNat k) (hb : x < 0 ∨ ¬ x < Int32.ofNat i) : False := by
  subst he
  exact hb.elim (xs_nn (by omega)) (fun q => q ((n_lt (by omega) (by omega)).mpr hk))
/-! put, element -/
def lowS (t : Nat) (y : Int64) : Int64 := if t = 0 then Int32.toInt64 ((Int32.toInt8 (Int64.toInt32 y)).toInt32) else if t = 1 then Int32.toInt64 ((Int32.toInt16 (Int64.toInt32 y)).toInt32) else if t = 2 then Int32.toInt64 (Int64.toInt32 y) else if t = 3 then y else if lg_cmp y 0 = 0 then 0 else 1
theorem c_lowest {gl : Int64 → xm_H → Prop} (hK : 0 < K) (hs : s < 6) (ht : t ≤ 4) (h0 : F (32 + 2 * s) 0 = Int32.ofNat t) (H : gl (lowS t q) (HP A L F)) : xm_Call K sX5_lowest 5 [.ref (32 + 2 * s), .long q] (HP A L F) (xm_pl gl) := by
  refine eX5_lowest (K := 0) hK (sh_obj hs) ⟨_, sh_f0 hs, ?_⟩
  rw [h0]
  rcases (show t = 0 ∨ t = 1 ∨ t = 2 ∨ t = 3 ∨ t = 4 by omega) with rfl | rfl | rfl | rfl | rfl
  · rw [if_pos (by decide)]; exact xm_pl_i H
  · rw [if_neg (by decide), if_pos (by decide)]; exact xm_pl_i H
  · rw [if_neg (by decide), if_neg (by decide), if_pos (by decide)]; exact xm_pl_i H
  · rw [if_neg (by decide), if_neg (by decide), if_neg (by decide), if_pos (by decide)]; exact xm_pl_i H
  · rw [if_neg (by decide), if_neg (by decide), if_neg (by decide), if_neg (by decide), if_pos (by decide)]
    have e : lowS 4 q = if lg_cmp q 0 = 0 then 0 else 1 := rfl
    rw [e] at H
    by_cases hc : lg_cmp q 0 = 0
    · rw [if_pos hc] at H ⊢; exact xm_pl_i H
    · rw [if_neg hc] at H ⊢; exact xm_pl_i H
theorem m_put9 {g : Int32 → xm_H → Prop} (hs : s < 6) (ht : t ≤ 4) (hk : k < 60) (h7 : A 77 s = -2 - Int32.ofNat t) (H : g 1 (HP A (va_up L 79 (vp_updL (L 79) (60 * s + k) (lowS t q))) F)) : xm_L K sX9_put kX9_put 9 [some (.ref 44), some (.int (Int32.ofNat s)), some (.int (Int32.ofNat k)), some (.long q), none, none, none] [] (HP A L F) (xm_pi g) := by
  have m := m2_t t ht
  refine xX9_put_9 ⟨_, rfl, _, ln_77 hs, xX9_put_16 ⟨_, rfl, xX9_put_23 ?_⟩⟩
  rw [h7, m.2.2.1, n_60]
  have fin : ∀ v : Int64, v = lowS t q → xm_L K sX9_put kX9_put 57 [none, none, none, none, none, none, none] [.long v, .int (Int32.ofNat (60 * s + k)), .ref 79] (HP A L F) (xm_pi g) := fun v hv => xX9_put_57 ⟨_, sn_79 (by omega), xm_pi_i (by rw [hv]; exact H)⟩
  rcases (show t = 0 ∨ t = 1 ∨ t = 2 ∨ t = 3 ∨ t = 4 by omega) with rfl | rfl | rfl | rfl | rfl
  · rw [if_pos (by decide)]; exact fin _ rfl
  · rw [if_neg (by decide)]
    refine xX9_put_30 ?_
    rw [if_pos (by decide)]; exact fin _ rfl
  · rw [if_neg (by decide)]
    refine xX9_put_30 ?_
    rw [if_neg (by decide)]
    refine xX9_put_38 ?_
    rw [if_pos (by decide)]; exact fin _ rfl
  · rw [if_neg (by decide)]
    refine xX9_put_30 ?_
    rw [if_neg (by decide)]
    refine xX9_put_38 ?_
    rw [if_neg (by decide)]
    refine xX9_put_45 ?_
    rw [if_pos (by decide)]; exact fin _ rfl
  · rw [if_neg (by decide)]
    refine xX9_put_30 ?_
    rw [if_neg (by decide)]
    refine xX9_put_38 ?_
    rw [if_neg (by decide)]
    refine xX9_put_45 ?_
    rw [if_neg (by decide)]
    refine xX9_put_50 ?_
    by_cases hc : lg_cmp q 0 = 0
    · rw [if_pos hc]; exact fin _ (by show _ = if lg_cmp q 0 = 0 then (0 : Int64) else 1; rw [if_pos hc])
    · rw [if_neg hc]; exact fin _ (by show _ = if lg_cmp q 0 = 0 then (0 : Int64) else 1; rw [if_neg hc])
theorem st_put {g : Int32 → Int32 → xm_H → Prop} (hK : 40 ≤ K) (hI : INV A L F n nb tc) (H : Fin2 g) : xm_Call K sX8_put 8 [.ref 0, .int x1, .int x2, .long q] (HP A L F) (xm_pi fun c h => xm_Call K sX9_put 9 [.ref 44, .int x1, .int x2, .long q] h (xm_pi fun c' h' => g c c' h')) := by
  have hI0 := hI
  obtain ⟨-, -, -, ⟨⟨n0, n1, n2, -⟩, -⟩, -⟩ := hI0
  have fail : ∀ v, g v v (HP A L F) := fun v => H _ _ _ _ _ _ _ hI
  refine eX8_put (K := 5) (by omega) ⟨_, rfl⟩ (c_shelfAt (by omega) (fun s hs he => ?_) (fun hb => ?_))
  · subst he
    rcases hI.one hs with ⟨h0, h7⟩ | ⟨h0, b, hb, -, h7⟩ | ⟨t, i, ht, hi, h0, h7, h2, h8, hL⟩
    · refine c_ref_a (by omega) hs h0 ?_
      rw [if_neg (by decide)]
      refine xm_pi_i (eX9_put (K := 5) (by omega) ⟨_, rfl⟩ (m_why_a (by omega) hs h7 ?_))
      rw [if_pos (by decide)]; exact xm_pi_i (fail _)
    · refine c_ref_b (by omega) hs h0 ?_
      rw [if_neg (by decide)]
      refine xm_pi_i (eX9_put (K := 5) (by omega) ⟨_, rfl⟩ (m_why_b (b := b) (by omega) hs (by omega) h7 ?_))
      rw [if_pos (by decide)]; exact xm_pi_i (fail _)
    · refine c_ref_c (t := t) (i := i) (by omega) hs ht hi h0 h2 (fun k hk ek => ?_) (fun hb => ?_)
      · rw [if_pos rfl]
        subst ek
        refine eX5_set (K := 4) (by omega) (sh_obj hs) ?_
        rw [if_neg (xs_nn (by omega))]
        refine ⟨_, sh_f2 hs, ?_⟩
        rw [h2, if_pos ((n_lt (by omega) (by omega)).mpr hk), if_pos (show Int32.ofNat k < (60 : Int32) from (n_lt (q := 60) (by omega) (by omega)).mpr (by omega))]
        refine ⟨_, sh_f3 hs, c_lowest (by omega) hs ht h0 ⟨_, sh_st hs (by omega), xm_pv_i (xm_pi_i ?_)⟩⟩
        refine eX9_put (K := 5) (by omega) ⟨_, rfl⟩ (m_why_c (t := t) (i := i) (by omega) hs ht hi h7 h8 (fun k' hk' ek' => ?_) (fun hb => (noI hi hk rfl hb).elim))
        rw [if_neg (by decide)]
        refine m_put9 hs ht (by omega) h7 (H _ _ _ _ _ _ _ (hI.shl1 hs Ag.rf (fun _ _ => rfl) (fun _ _ => rfl) (fun _ _ => rfl) (fun r hr hrs => ?_) (fun k' hk' => ?_) ?_))
        · rw [u_ne (by omega), u_ne (by omega)]
        · rw [u_eq, l_ne (by omega), u_ne (by omega)]
        · refine Or.inr (Or.inr ⟨t, i, ht, hi, h0, h7, h2, h8, fun k' hk' => ?_⟩)
          rw [u_ne (by omega), u_eq, u_eq, u_ne (by omega)]
          by_cases e : k' = k
          · subst e; rw [l_eq, l_eq]
          · rw [l_ne e, l_ne (by omega)]; exact hL k' hk'
      · rw [if_neg (by decide)]
        refine xm_pi_i (eX9_put (K := 5) (by omega) ⟨_, rfl⟩ (m_why_c (t := t) (i := i) (by omega) hs ht hi h7 h8 (fun k' hk' ek' => (noI hi hk' ek' hb).elim) (fun _ => ?_)))
        rw [if_pos (by decide)]; exact xm_pi_i (fail _)
  · refine xm_pi_i (eX9_put (K := 5) (by omega) ⟨_, rfl⟩ (m_why_n (by omega) hb ?_))
    rw [if_pos (by decide)]; exact xm_pi_i (fail _)
def FinL (g : Int64 → Int64 → xm_H → Prop) : Prop := ∀ v A L F n nb tc, INV A L F n nb tc → g v v (HP A L F)
theorem c_sget {gl : Int64 → xm_H → Prop} (hK : 0 < K) (hs : s < 6) (hi : i ≤ 60) (hk : k < i) (h2 : F (32 + 2 * s) 2 = Int32.ofNat i) (H : gl (L (33 + 2 * s) k) (HP A L F)) : xm_Call K sX5_get 5 [.ref (32 + 2 * s), .int (Int32.ofNat k)] (HP A L F) (xm_pl gl) := by
  refine eX5_get (K := 0) hK (sh_obj hs) ?_
  rw [if_neg (xs_nn (by omega))]
  refine ⟨_, sh_f2 hs, ?_⟩
  rw [h2, if_pos ((n_lt (by omega) (by omega)).mpr hk), if_pos (show Int32.ofNat k < (60 : Int32) from (n_lt (q := 60) (by omega) (by omega)).mpr (by omega))]
  exact ⟨_, sh_f3 hs, _, sh_ld hs (by omega), xm_pl_i H⟩
theorem st_element {g : Int64 → Int64 → xm_H → Prop} (hK : 40 ≤ K) (hI : INV A L F n nb tc) (H : FinL g) : xm_Call K sX8_element 8 [.ref 0, .int x1, .int x2] (HP A L F) (xm_pl fun c h => xm_Call K sX9_element 9 [.ref 44, .int x1, .int x2] h (xm_pl fun c' h' => g c c' h')) := by
  have hI0 := hI
  obtain ⟨-, -, -, ⟨⟨n0, n1, n2, -⟩, -⟩, -⟩ := hI0
  have fail : ∀ v, g v v (HP A L F) := fun v => H _ _ _ _ _ _ _ hI
  refine eX8_element (K := 5) (by omega) ⟨_, rfl⟩ (c_shelfAt (by omega) (fun s hs he => ?_) (fun hb => ?_))
  · subst he
    rcases hI.one hs with ⟨h0, h7⟩ | ⟨h0, b, hb, -, h7⟩ | ⟨t, i, ht, hi, h0, h7, h2, h8, hL⟩
    · refine c_ref_a (by omega) hs h0 ?_
      rw [if_neg (by decide)]
      refine xm_pl_i (eX9_element (K := 5) (by omega) ⟨_, rfl⟩ (m_why_a (by omega) hs h7 ?_))
      rw [if_pos (by decide)]; exact xm_pl_i (fail _)
    · refine c_ref_b (by omega) hs h0 ?_
      rw [if_neg (by decide)]
      refine xm_pl_i (eX9_element (K := 5) (by omega) ⟨_, rfl⟩ (m_why_b (b := b) (by omega) hs (by omega) h7 ?_))
      rw [if_pos (by decide)]; exact xm_pl_i (fail _)
    · refine c_ref_c (t := t) (i := i) (by omega) hs ht hi h0 h2 (fun k hk ek => ?_) (fun hb => ?_)
      · rw [if_pos rfl]
        subst ek
        refine c_sget (i := i) (by omega) hs hi hk h2 (xm_pl_i ?_)
        refine eX9_element (K := 5) (by omega) ⟨_, rfl⟩ (m_why_c (t := t) (i := i) (by omega) hs ht hi h7 h8 (fun k' hk' ek' => ?_) (fun hb => (noI hi hk rfl hb).elim))
        rw [if_neg (by decide), n_60]
        refine ⟨_, rfl, _, ln_79 (by omega), xm_pl_i ?_⟩
        rw [hL k (by omega)]; exact fail _
      · rw [if_neg (by decide)]
        refine xm_pl_i (eX9_element (K := 5) (by omega) ⟨_, rfl⟩ (m_why_c (t := t) (i := i) (by omega) hs ht hi h7 h8 (fun k' hk' ek' => (noI hi hk' ek' hb).elim) (fun _ => ?_)))
        rw [if_pos (by decide)]; exact xm_pl_i (fail _)
  · refine xm_pl_i (eX9_element (K := 5) (by omega) ⟨_, rfl⟩ (m_why_n (by omega) hb ?_))
    rw [if_pos (by decide)]; exact xm_pl_i (fail _)
end SHB
