section DDA
variable {A : Nat → Nat → Int32} {L : Nat → Nat → Int64} {F : Nat → Nat → Int32} {g : Int32 → xm_H → Prop} {gv : xm_H → Prop} {w n p k j y e m r o a K nb : Nat} {x x1 x2 x3 v z : Int32} {h : xm_H} {tc : (Nat → Int32) → Int32} {c : Nat → Int32}
theorem i_le (b : Nat) (hb : b < 100000) (h0 : ¬ x < 0) (h1 : ¬ Int32.ofNat b < x) : ∃ o, o ≤ b ∧ x = Int32.ofNat o := by
  obtain ⟨m, h2, h3⟩ := n_of (n := b + 1) (x := x) (by omega) h0 (by
    rw [Int32.lt_iff_toInt_lt, n_ti (by omega)] at *
    omega)
  exact ⟨m, by omega, h3⟩
theorem c_cellAny (hK : 0 < K) (hn : F 1 1 = Int32.ofNat n) (hn8 : n ≤ 8) (H : ∀ o a, plc n o a → x1 = Int32.ofNat a → x2 = Int32.ofNat o → g (Int32.ofNat (cel o a)) (HP A L F)) (H2 : (∀ o a, plc n o a → x1 = Int32.ofNat a → x2 = Int32.ofNat o → False) → g (-1) (HP A L F)) : xm_Call K sX7_cellOf 7 [.ref 1, .int x1, .int x2] (HP A L F) (xm_pi g) := by
  refine eX7_cellOf (K := 0) hK ⟨_, rfl⟩ ?_
  have plo : ∀ {o a}, plc n o a → o ≤ 10 ∧ a < 8 := fun h => by unfold plc at h; omega
  by_cases a1 : x1 < 0
  · rw [if_pos a1]
    refine xm_pi_i (H2 (fun o a hp e1 _ => ?_))
    rw [e1] at a1
    exact xs_nn (by have := plo hp; omega) a1
  · rw [if_neg a1]
    by_cases a2 : x2 < 0
    · rw [if_pos a2]
      refine xm_pi_i (H2 (fun o a hp _ e2 => ?_))
      rw [e2] at a2
      exact xs_nn (by have := plo hp; omega) a2
    · rw [if_neg a2]
      by_cases a3 : (10 : Int32) < x2
      · rw [if_pos a3]
        refine xm_pi_i (H2 (fun o a hp _ e2 => ?_))
        rw [e2] at a3
        have := (n_lt (p := 10) (by omega) (by have := plo hp; omega)).mp a3
        have := plo hp
        omega
      · rw [if_neg a3]
        obtain ⟨o, ho, e2⟩ := i_le 10 (by omega) a2 a3
        have io : ∀ {o' a'}, plc n o' a' → x2 = Int32.ofNat o' → o' = o := fun h e => (n_eq (by have := plo h; omega) (by omega)).mp (e.symm.trans e2)
        have ia : ∀ {o' a' a : Nat}, a < 1000 → plc n o' a' → x1 = Int32.ofNat a → x1 = Int32.ofNat a' → a' = a := fun l h e e' => (n_eq (by have := plo h; omega) (by omega)).mp (e'.symm.trans e)
        by_cases a4 : (6 : Int32) < x2
        · rw [if_pos a4]
          rw [e2] at a4
          have l4 := (n_lt (p := 6) (by omega) (by omega)).mp a4
          by_cases a5 : x2 = 7
          · rw [if_pos a5]
            have : o = 7 := (n_eq (q := 7) (by omega) (by omega)).mp (e2.symm.trans a5)
            subst this
            by_cases a6 : x1 < 8
            · rw [if_pos a6]
              obtain ⟨a, ha, e1⟩ := n_of (n := 8) (by omega) a1 a6
              have hh := H 7 a (Or.inr (Or.inl ⟨rfl, ha⟩)) e1 e2
              rw [e1, show (56 : Int32) = Int32.ofNat 56 from rfl, n_add]
              exact xm_pi_i hh
            · rw [if_neg a6]
              refine xm_pi_i (H2 (fun o' a' hp e1 e2' => a6 ?_))
              rw [e1]
              exact (n_lt (q := 8) (by have := plo hp; omega) (by omega)).mpr (plo hp).2
          · rw [if_neg a5]
            have ho7 : o ≠ 7 := fun q => a5 (by rw [e2, q]; rfl)
            by_cases a6 : x1 = 0
            · rw [if_pos a6]
              have hh := H o 0 (Or.inr (Or.inr ⟨by omega, ho, rfl⟩)) a6 e2
              have e7 : (64 : Int32) + x2 - 8 = Int32.ofNat (cel o 0) := by
                rw [e2]
                rcases (show o = 8 ∨ o = 9 ∨ o = 10 by omega) with rfl | rfl | rfl <;> decide
              rw [e7]
              exact xm_pi_i hh
            · rw [if_neg a6]
              refine xm_pi_i (H2 (fun o' a' hp e1 e2' => a6 ?_))
              have := io hp e2'
              subst this
              unfold plc at hp
              have : a' = 0 := by omega
              rw [e1, this]; rfl
        · rw [if_neg a4]
          rw [e2] at a4
          have l4 : o ≤ 6 := Nat.le_of_not_lt (fun q => a4 ((n_lt (p := 6) (q := o) (by omega) (by omega)).mpr q))
          refine ⟨_, rfl, ?_⟩
          rw [hn]
          by_cases a6 : x1 < Int32.ofNat n
          · rw [if_pos a6]
            obtain ⟨a, ha, e1⟩ := n_of (by omega) a1 a6
            have hh := H o a (Or.inl ⟨l4, ha⟩) e1 e2
            have e7 : x2 * 8 + x1 = Int32.ofNat (cel o a) := by
              rw [e1, e2, show (8 : Int32) = Int32.ofNat 8 from rfl, n_mul, n_add, cel, if_pos (by omega), Nat.mul_comm]
            rw [e7]
            exact xm_pi_i hh
          · rw [if_neg a6]
            refine xm_pi_i (H2 (fun o' a' hp e1 e2' => a6 ?_))
            have := io hp e2'
            subst this
            rw [e1]
            refine (n_lt (by have := plo hp; omega) (by omega)).mpr ?_
            unfold plc at hp
            omega
theorem m_isPlace (hK : 2 < K) (hn : F 44 1 = Int32.ofNat n) (hn8 : n ≤ 8) (H : ∀ o a, plc n o a → x1 = Int32.ofNat a → x2 = Int32.ofNat o → g 1 (HP A L F)) (H2 : (∀ o a, plc n o a → x1 = Int32.ofNat a → x2 = Int32.ofNat o → False) → g 0 (HP A L F)) : xm_Call K sX9_isPlace 9 [.ref 44, .int x1, .int x2] (HP A L F) (xm_pi g) := by
  have plo : ∀ {o a}, plc n o a → o ≤ 10 ∧ a < 8 := fun h => by unfold plc at h; omega
  refine eX9_isPlace (K := 2) hK ⟨_, rfl⟩ (m_in2 (by omega) (fun a1 a2 => ?_) (fun q => ?_))
  · rw [if_neg (by decide)]
    obtain ⟨o, ho, e2⟩ := i_le 6 (by omega) a1 a2
    refine m_isOne (n := n) (by omega) hn hn8 (fun a ha e1 => ?_) (fun hb => ?_)
    · rw [if_pos (Or.inr rfl)]
      exact xm_pi_i (H o a (Or.inl ⟨ho, ha⟩) e1 e2)
    · rw [if_pos (Or.inl rfl)]
      refine xm_pi_i (H2 (fun o' a' hp e1 e2' => ?_))
      have : o' = o := (n_eq (by have := plo hp; omega) (by omega)).mp (e2'.symm.trans e2)
      subst this
      unfold plc at hp
      exact bad_no hn8 (show a' < n by omega) e1 hb
  · rw [if_pos rfl]
    have no6 : ∀ {o' a'}, plc n o' a' → x2 = Int32.ofNat o' → 6 < o' := fun {o' a'} hp e => by
      rcases q with q | q
      · rw [e] at q; exact absurd q (xs_nn (by have := plo hp; omega))
      · rw [e] at q; exact (n_lt (p := 6) (by omega) (by have := plo hp; omega)).mp q
    by_cases a5 : x2 = 7
    · rw [if_pos a5]
      have o7 : ∀ {o' a'}, plc n o' a' → x2 = Int32.ofNat o' → o' = 7 := fun hp e => (n_eq (q := 7) (by have := plo hp; omega) (by omega)).mp (e.symm.trans a5)
      refine m_in2 (by omega) (fun b1 b2 => ?_) (fun b => ?_)
      · rw [if_pos (Or.inr rfl)]
        obtain ⟨a, ha, e1⟩ := i_le 7 (by omega) b1 b2
        exact xm_pi_i (H 7 a (Or.inr (Or.inl ⟨rfl, by omega⟩)) e1 a5)
      · rw [if_pos (Or.inl rfl)]
        refine xm_pi_i (H2 (fun o' a' hp e1 e2' => ?_))
        rw [e1] at b
        rcases b with b | b
        · exact xs_nn (by have := plo hp; omega) b
        · have := (n_lt (p := 7) (by omega) (by have := plo hp; omega)).mp b
          have := plo hp
          omega
    · rw [if_neg a5]
      refine m_in2 (by omega) (fun b1 b2 => ?_) (fun b => ?_)
      · rw [if_neg (by decide)]
        have h0 : ¬ x2 < 0 := fun z => b1 (by
          have t0 : (0 : Int32).toInt = 0 := rfl
          have t8 : (8 : Int32).toInt = 8 := rfl
          rw [Int32.lt_iff_toInt_lt] at *
          omega)
        obtain ⟨o, ho, e2⟩ := i_le 10 (by omega) h0 b2
        have l8 : 8 ≤ o := by
          rw [e2] at b1
          exact Nat.le_of_not_lt (fun q => b1 ((n_lt (p := o) (q := 8) (by omega) (by omega)).mpr q))
        by_cases a6 : x1 = 0
        · rw [if_pos a6]
          exact xm_pi_i (H o 0 (Or.inr (Or.inr ⟨l8, ho, rfl⟩)) a6 e2)
        · rw [if_neg a6]
          refine xm_pi_i (H2 (fun o' a' hp e1 e2' => a6 ?_))
          have : o' = o := (n_eq (by have := plo hp; omega) (by omega)).mp (e2'.symm.trans e2)
          subst this
          unfold plc at hp
          have : a' = 0 := by omega
          rw [e1, this]; rfl
      · rw [if_pos rfl]
        refine xm_pi_i (H2 (fun o' a' hp e1 e2' => ?_))
        have h6 := no6 hp e2'
        have hne : o' ≠ 7 := fun z => a5 (by rw [e2', z]; rfl)
        have := plo hp
        rcases b with b | b
        · rw [e2'] at b
          have := (n_lt (q := 8) (by omega) (by omega)).mp b
          omega
        · rw [e2'] at b
          have := (n_lt (p := 10) (by omega) (by omega)).mp b
          omega
theorem st_l (ho : o ≤ 10) : xm_ld xm_st (HP A L F) 0 (1000 + 0) (Int32.ofNat o) = some (lstI o) := by
  rcases (show o = 0 ∨ o = 1 ∨ o = 2 ∨ o = 3 ∨ o = 4 ∨ o = 5 ∨ o = 6 ∨ o = 7 ∨ o = 8 ∨ o = 9 ∨ o = 10 by omega) with rfl | rfl | rfl | rfl | rfl | rfl | rfl | rfl | rfl | rfl | rfl <;> rfl
theorem st_m (ho : o ≤ 10) : xm_ld xm_st (HP A L F) 0 (1000 + 1) (Int32.ofNat o) = some (mstI o) := by
  rcases (show o = 0 ∨ o = 1 ∨ o = 2 ∨ o = 3 ∨ o = 4 ∨ o = 5 ∨ o = 6 ∨ o = 7 ∨ o = 8 ∨ o = 9 ∨ o = 10 by omega) with rfl | rfl | rfl | rfl | rfl | rfl | rfl | rfl | rfl | rfl | rfl <;> rfl
theorem c_within (hK : 0 < K) (ho : o ≤ 10) (H : mayV o v → g 1 (HP A L F)) (H2 : ¬ mayV o v → g 0 (HP A L F)) : xm_Call K sX8_isWithin 99 [.int (Int32.ofNat o), .int v] (HP A L F) (xm_pi g) := by
  refine eX8_isWithin (K := 0) hK ?_
  rw [if_neg (xs_nn (by omega)), if_neg (show ¬ (10 : Int32) < Int32.ofNat o from n_ge (p := 10) (by omega) (by omega) ho)]
  refine ⟨_, st_l ho, ?_⟩
  by_cases h1 : v < lstI o
  · rw [if_pos h1]; exact xm_pi_i (H2 (fun q => q.1 h1))
  · rw [if_neg h1]
    refine ⟨_, st_m ho, ?_⟩
    by_cases h2 : mstI o < v
    · rw [if_pos h2]; exact xm_pi_i (H2 (fun q => q.2 h2))
    · rw [if_neg h2]; exact xm_pi_i (H ⟨h1, h2⟩)
theorem m_inV (hK : 0 < K) (H : mayV o v → g 1 h) (H2 : ¬ mayV o v → g 0 h) : xm_Call K sX9_in 99 [.int v, .int (lstI o), .int (mstI o)] h (xm_pi fun c2 h1 => (if c2 = 0 ∨ c2 = 1 then xm_pi g (some (.int c2)) h1 else False)) := by
  refine m_in2 hK (fun a1 a2 => ?_) (fun q => ?_)
  · rw [if_pos (Or.inr rfl)]; exact xm_pi_i (H ⟨a1, a2⟩)
  · rw [if_pos (Or.inl rfl)]; exact xm_pi_i (H2 (fun z => q.elim z.1 z.2))
theorem m_mayHave (hK : 1 < K) (ho : o ≤ 10) (H : mayV o v → g 1 h) (H2 : ¬ mayV o v → g 0 h) : xm_Call K sX9_mayHave 99 [.int (Int32.ofNat o), .int v] h (xm_pi g) := by
  refine eX9_mayHave (K := 1) hK ?_
  rcases (show o = 0 ∨ o = 1 ∨ o = 2 ∨ o = 3 ∨ o = 4 ∨ o = 5 ∨ o = 6 ∨ o = 7 ∨ o = 8 ∨ o = 9 ∨ o = 10 by omega) with rfl | rfl | rfl | rfl | rfl | rfl | rfl | rfl | rfl | rfl | rfl <;> (repeat (first | rw [if_pos (by decide)] | rw [if_neg (by decide)]))
  · exact m_inV (o := 0) (by omega) H H2
  · exact m_inV (o := 1) (by omega) H H2
  · exact m_inV (o := 2) (by omega) H H2
  · exact m_inV (o := 3) (by omega) H H2
  · exact m_inV (o := 4) (by omega) H H2
  · exact m_inV (o := 5) (by omega) H H2
  · exact m_inV (o := 6) (by omega) H H2
  · exact m_inV (o := 7) (by omega) H H2
  · exact m_inV (o := 8) (by omega) H H2
  · exact m_inV (o := 9) (by omega) H H2
  · exact m_inV (o := 10) (by omega) H H2
theorem m_valueAt (hK : 0 < K) (hx : plx o a) (H : g (A (mC o) (mI o a)) (HP A L F)) : xm_Call K sX9_valueAt 9 [.ref 44, .int (Int32.ofNat o), .int (Int32.ofNat a)] (HP A L F) (xm_pi g) := by
  refine eX9_valueAt (K := 0) hK ⟨_, rfl⟩ ?_
  unfold plx at hx
  rcases (show o = 0 ∨ o = 1 ∨ o = 2 ∨ o = 3 ∨ o = 4 ∨ o = 5 ∨ o = 6 ∨ o = 7 ∨ o = 8 ∨ o = 9 ∨ o = 10 by omega) with rfl | rfl | rfl | rfl | rfl | rfl | rfl | rfl | rfl | rfl | rfl <;> (repeat (first | rw [if_pos (by decide)] | rw [if_neg (by decide)]))
  · exact ⟨_, rfl, _, ln_45 (by omega), xm_pi_i H⟩
  · exact ⟨_, rfl, _, ln_46 (by omega), xm_pi_i H⟩
  · exact ⟨_, rfl, _, ln_47 (by omega), xm_pi_i H⟩
  · exact ⟨_, rfl, _, ln_48 (by omega), xm_pi_i H⟩
  · exact ⟨_, rfl, _, ln_49 (by omega), xm_pi_i H⟩
  · exact ⟨_, rfl, _, ln_50 (by omega), xm_pi_i H⟩
  · exact ⟨_, rfl, _, ln_51 (by omega), xm_pi_i H⟩
  · exact ⟨_, rfl, _, ln_52 (by omega), xm_pi_i H⟩
  · exact ⟨_, rfl, _, ln_53 (j := 0) (by omega), xm_pi_i H⟩
  · exact ⟨_, rfl, _, ln_53 (j := 1) (by omega), xm_pi_i H⟩
  · exact ⟨_, rfl, _, ln_53 (j := 2) (by omega), xm_pi_i H⟩
theorem m_lays (hK : 0 < K) (hx : plx o a) (H : gv (HP (va_up A (mC o) (upd (A (mC o)) (mI o a) v)) L F)) : xm_Call K sX9_lays 9 [.ref 44, .int (Int32.ofNat o), .int (Int32.ofNat a), .int v] (HP A L F) (xm_pv gv) := by
  refine eX9_lays (K := 0) hK ⟨_, rfl⟩ ?_
  unfold plx at hx
  rcases (show o = 0 ∨ o = 1 ∨ o = 2 ∨ o = 3 ∨ o = 4 ∨ o = 5 ∨ o = 6 ∨ o = 7 ∨ o = 8 ∨ o = 9 ∨ o = 10 by omega) with rfl | rfl | rfl | rfl | rfl | rfl | rfl | rfl | rfl | rfl | rfl <;> (repeat (first | rw [if_pos (by decide)] | rw [if_neg (by decide)]))
  · exact ⟨_, rfl, _, sn_45 (by omega), xm_pv_i H⟩
  · exact ⟨_, rfl, _, sn_46 (by omega), xm_pv_i H⟩
  · exact ⟨_, rfl, _, sn_47 (by omega), xm_pv_i H⟩
  · exact ⟨_, rfl, _, sn_48 (by omega), xm_pv_i H⟩
  · exact ⟨_, rfl, _, sn_49 (by omega), xm_pv_i H⟩
  · exact ⟨_, rfl, _, sn_50 (by omega), xm_pv_i H⟩
  · exact ⟨_, rfl, _, sn_51 (by omega), xm_pv_i H⟩
  · exact ⟨_, rfl, _, sn_52 (by omega), xm_pv_i H⟩
  · exact ⟨_, rfl, _, sn_53 (j := 0) (by omega), xm_pv_i H⟩
  · exact ⟨_, rfl, _, sn_53 (j := 1) (by omega), xm_pv_i H⟩
  · exact ⟨_, rfl, _, sn_53 (j := 2) (by omega), xm_pv_i H⟩
end DDA
