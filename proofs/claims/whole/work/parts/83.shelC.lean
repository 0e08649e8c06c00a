section SHC
variable {A : Nat → Nat → Int32} {L : Nat → Nat → Int64} {F : Nat → Nat → Int32} {gv : xm_H → Prop} {w n p k j y e m r o a d u K nb km s i i2 t t2 b : Nat} {x x1 x2 x3 x4 x5 v z : Int32} {h : xm_H} {tc : (Nat → Int32) → Int32} {c : Nat → Int32} {q : Int64}
theorem sh_arr (hs : s < 6) : (HP A L F)[33 + 2 * s]? = some (.inl (3, 60, .inr (.inl (L (33 + 2 * s))))) := by rcases six hs with rfl | rfl | rfl | rfl | rfl | rfl <;> rfl
theorem sh_set {f : Nat → Int64} (hs : s < 6) : (HP A L F).set (33 + 2 * s) (.inl (3, 60, .inr (.inl f))) = HP A (va_up L (33 + 2 * s) f) F := by rcases six hs with rfl | rfl | rfl | rfl | rfl | rfl <;> rfl
theorem sh_cp (hs : s < 6) (hr : r < 6) (h1 : i + m ≤ 60) (h2 : j + m ≤ 60) : xm_cpL (HP A L F) (33 + 2 * s) (Int32.ofNat i) (33 + 2 * r) (Int32.ofNat j) (Int32.ofNat m) = some (HP A (va_up L (33 + 2 * r) (va_cpy (L (33 + 2 * s)) (L (33 + 2 * r)) i j m)) F) := by
  have e1 := xs_tn (j := i) (by omega)
  have e2 := xs_tn (j := j) (by omega)
  have e3 := xs_tn (j := m) (by omega)
  unfold xm_cpL
  rw [sh_arr hs, sh_arr hr]
  show (if (¬ Int32.ofNat i < 0 ∧ ¬ Int32.ofNat j < 0 ∧ ¬ Int32.ofNat m < 0) ∧ (Int32.ofNat i).toNatClampNeg + (Int32.ofNat m).toNatClampNeg ≤ 60 ∧ (Int32.ofNat j).toNatClampNeg + (Int32.ofNat m).toNatClampNeg ≤ 60 then some ((HP A L F).set (33 + 2 * r) (.inl (3, 60, .inr (.inl (va_cpy (L (33 + 2 * s)) (L (33 + 2 * r)) (Int32.ofNat i).toNatClampNeg (Int32.ofNat j).toNatClampNeg (Int32.ofNat m).toNatClampNeg))))) else none) = _
  rw [e1, e2, e3, if_pos ⟨⟨xs_nn (by omega), xs_nn (by omega), xs_nn (by omega)⟩, h1, h2⟩, sh_set hr]
theorem cpy_at {f g : Nat → Int64} : va_cpy f g i j m k = if j ≤ k ∧ k < j + m then f (i + (k - j)) else g k := rfl
def plR (i : Nat) (x z : Int32) : Prop := ∃ k m, x = Int32.ofNat k ∧ z = Int32.ofNat m ∧ k + m ≤ i
theorem pl_iff (hi : i ≤ 60) : plR i x z ↔ ¬ x < 0 ∧ ¬ z < 0 ∧ ¬ Int32.ofNat i - z < x := by
  have t0 : (0 : Int32).toInt = 0 := rfl
  have ti := n_ti (p := i) (by omega)
  constructor
  · rintro ⟨k, m, rfl, rfl, hk⟩
    have tk := n_ti (p := k) (by omega)
    have tm := n_ti (p := m) (by omega)
    have es := i_sub (a := Int32.ofNat i) (b := Int32.ofNat m) (by omega) (by omega)
    refine ⟨xs_nn (by omega), xs_nn (by omega), ?_⟩
    rw [Int32.lt_iff_toInt_lt, es]
    omega
  · rintro ⟨h1, h2, h3⟩
    have lz := Int32.toInt_lt z
    rw [Int32.lt_iff_toInt_lt] at h1 h2 h3
    have es := i_sub (a := Int32.ofNat i) (b := z) (by omega) (by omega)
    rw [es] at h3
    obtain ⟨k, hk, ek⟩ := n_of (x := x) (n := 61) (by omega) (by rw [Int32.lt_iff_toInt_lt]; omega) (by rw [Int32.lt_iff_toInt_lt, n_ti (by omega)]; omega)
    obtain ⟨m, hm, em⟩ := n_of (x := z) (n := 61) (by omega) (by rw [Int32.lt_iff_toInt_lt]; omega) (by rw [Int32.lt_iff_toInt_lt, n_ti (by omega)]; omega)
    have tk := n_ti (p := k) (by omega)
    have tm := n_ti (p := m) (by omega)
    refine ⟨k, m, ek, em, ?_⟩
    rw [ek, em] at h3
    omega
theorem c_hasPl {g : Int32 → xm_H → Prop} (hK : 0 < K) (hs : s < 6) (hi : i ≤ 60) (h2 : F (32 + 2 * s) 2 = Int32.ofNat i) (H : plR i x z → g 1 (HP A L F)) (H2 : ¬ plR i x z → g 0 (HP A L F)) : xm_Call K sX5_hasPlaces 5 [.ref (32 + 2 * s), .int x, .int z] (HP A L F) (xm_pi g) := by
  refine eX5_hasPlaces (K := 0) hK (sh_obj hs) ?_
  by_cases a1 : x < 0
  · rw [if_pos a1]; exact xm_pi_i (H2 (fun q => ((pl_iff hi).mp q).1 a1))
  rw [if_neg a1]
  by_cases a2 : z < 0
  · rw [if_pos a2]; exact xm_pi_i (H2 (fun q => ((pl_iff hi).mp q).2.1 a2))
  rw [if_neg a2]
  refine ⟨_, sh_f2 hs, ?_⟩
  rw [h2]
  by_cases a3 : Int32.ofNat i < z
  · rw [if_pos a3]
    refine xm_pi_i (H2 ?_)
    rintro ⟨k, m, -, rfl, hm⟩
    exact absurd ((n_lt (by omega) (by omega)).mp a3) (by omega)
  rw [if_neg a3]
  refine ⟨_, sh_f2 hs, ?_⟩
  rw [h2]
  by_cases a4 : Int32.ofNat i - z < x
  · rw [if_pos a4]; exact xm_pi_i (H2 (fun q => ((pl_iff hi).mp q).2.2 a4))
  · rw [if_neg a4]; exact xm_pi_i (H ((pl_iff hi).mpr ⟨a1, a2, a4⟩))
theorem m_shift64 {g : Int32 → xm_H → Prop} (hs : s < 6) (hr : r < 6) (h1 : i + m ≤ 60) (h2 : j + m ≤ 60) (H : ∀ L', Ag [79, 80] L L' → (∀ k, L' 79 k = if 60 * r + j ≤ k ∧ k < 60 * r + j + m then L 79 (60 * s + i + (k - (60 * r + j))) else L 79 k) → g (Int32.ofNat m) (HP A L' F)) : xm_L K sX9_shift kX9_shift 64 [some (.ref 44), some (.int (Int32.ofNat s)), some (.int (Int32.ofNat i)), some (.int (Int32.ofNat r)), some (.int (Int32.ofNat j)), some (.int (Int32.ofNat m)), some (.int (Int32.ofNat 0))] [] (HP A L F) (xm_pi g) := by
  refine xm_for (n := m) (Q := fun p h => xm_L K sX9_shift kX9_shift 64 [some (.ref 44), some (.int (Int32.ofNat s)), some (.int (Int32.ofNat i)), some (.int (Int32.ofNat r)), some (.int (Int32.ofNat j)), some (.int (Int32.ofNat m)), some (.int (Int32.ofNat p))] [] h (xm_pi g)) (fun p h => ∃ L', h = HP A L' F ∧ Ag [80] L L' ∧ ∀ k, k < p → L' 80 k = L 79 (60 * s + i + k)) ?_ ?_ 0 _ (Nat.zero_le _) ⟨L, rfl, Ag.rf, fun k hk => absurd hk (by omega)⟩
  · rintro p h hp ⟨L1, rfl, l1, l2⟩ ih
    refine xX9_shift_64 ?_
    rw [if_pos ((n_lt (by omega) (by omega)).mpr hp), n_60, n_add, n_succ]
    refine ⟨_, rfl, _, rfl, _, ln_79 (by omega), _, sn_80 (by omega), ih _ ⟨_, rfl, Ag.up l1 (by simp), fun k hk => ?_⟩⟩
    rw [u_eq]
    by_cases e : k = p
    · subst e; rw [l_eq, l1 79 (by simp)]
    · rw [l_ne e]; exact l2 k (by omega)
  · rintro h ⟨L1, rfl, l1, l2⟩
    refine xX9_shift_64 ?_
    rw [if_neg (n_ge (by omega) (by omega) (Nat.le_refl _))]
    refine xm_for (n := m) (Q := fun p h => xm_L K sX9_shift kX9_shift 85 [some (.ref 44), none, none, some (.int (Int32.ofNat r)), some (.int (Int32.ofNat j)), some (.int (Int32.ofNat m)), some (.int (Int32.ofNat p))] [] h (xm_pi g)) (fun p h => ∃ L', h = HP A L' F ∧ Ag [79] L1 L' ∧ ∀ k, L' 79 k = if 60 * r + j ≤ k ∧ k < 60 * r + j + p then L 79 (60 * s + i + (k - (60 * r + j))) else L 79 k) ?_ ?_ 0 _ (Nat.zero_le _) ⟨L1, rfl, Ag.rf, fun k => by rw [if_neg (by omega), l1 79 (by simp)]⟩
    · rintro p h hp ⟨L2, rfl, l3, l4⟩ ih
      refine xX9_shift_85 ?_
      rw [if_pos ((n_lt (by omega) (by omega)).mpr hp), n_60, n_add, n_succ]
      refine ⟨_, rfl, _, rfl, _, ln_80 (by omega), _, sn_79 (by omega), ih _ ⟨_, rfl, Ag.up l3 (by simp), fun k => ?_⟩⟩
      rw [u_eq]
      by_cases e : k = 60 * r + j + p
      · subst e
        rw [l_eq, if_pos ⟨by omega, by omega⟩, l3 80 (by simp), l2 p hp]
        congr 1
        omega
      · rw [l_ne e, l4 k]
        by_cases hc : 60 * r + j ≤ k ∧ k < 60 * r + j + p
        · rw [if_pos hc, if_pos ⟨by omega, by omega⟩]
        · rw [if_neg hc, if_neg (by omega)]
    · rintro h ⟨L2, rfl, l3, l4⟩
      refine xX9_shift_85 ?_
      rw [if_neg (n_ge (by omega) (by omega) (Nat.le_refl _))]
      exact xm_pi_i (H _ (Ag.tr (l1.mono (fun k hk => by simp at hk ⊢; omega)) (l3.mono (fun k hk => by simp at hk ⊢; omega))) l4)
theorem st_shift {g : Int32 → Int32 → xm_H → Prop} (hK : 40 ≤ K) (hI : INV A L F n nb tc) (H : Fin2 g) : xm_Call K sX8_shift 8 [.ref 0, .int x1, .int x2, .int x3, .int x4, .int x5] (HP A L F) (xm_pi fun c h => xm_Call K sX9_shift 9 [.ref 44, .int x1, .int x2, .int x3, .int x4, .int x5] h (xm_pi fun c' h' => g c c' h')) := by
  have hI0 := hI
  obtain ⟨-, -, -, ⟨⟨n0, n1, n2, -⟩, -⟩, -⟩ := hI0
  have fail : ∀ v, g v v (HP A L F) := fun v => H _ _ _ _ _ _ _ hI
  refine eX8_shift (K := 5) (by omega) ⟨_, rfl⟩ (c_shelfAt (by omega) (fun s hs he => ?_) (fun hb => ?_))
  · refine c_shelfAt (by omega) (fun r hr hf => ?_) (fun hb => ?_)
    · subst he; subst hf
      -- the reference up to the first question
      have ref : ∀ {L0 : Nat → Nat → Int64} {v : Int32}, (A 77 s = -1 → g v (-11) (HP A L0 F)) → (A 77 s ≠ -1 → A 77 r = -1 → g v (-11) (HP A L0 F)) → (A 77 s ≠ -1 → A 77 r ≠ -1 → (¬ A 77 s < 0 → g v (-12) (HP A L0 F)) ∧ (A 77 s < 0 → (A 77 s ≠ A 77 r → g v (-12) (HP A L0 F)) ∧ (A 77 s = A 77 r → ∃ i i2, i ≤ 60 ∧ i2 ≤ 60 ∧ A 78 s = Int32.ofNat i ∧ A 78 r = Int32.ofNat i2 ∧ (¬ (plR i x2 x5 ∧ plR i2 x4 x5) → g v (-13) (HP A L0 F)) ∧ (∀ k j m, x2 = Int32.ofNat k → x4 = Int32.ofNat j → x5 = Int32.ofNat m → k + m ≤ i → j + m ≤ i2 → ∀ L', Ag [79, 80] L0 L' → (∀ k', L' 79 k' = if 60 * r + j ≤ k' ∧ k' < 60 * r + j + m then L0 79 (60 * s + k + (k' - (60 * r + j))) else L0 79 k') → g v (Int32.ofNat m) (HP A L' F))))) → xm_Call K sX9_shift 9 [.ref 44, .int (Int32.ofNat s), .int x2, .int (Int32.ofNat r), .int x4, .int x5] (HP A L0 F) (xm_pi fun c' h' => g v c' h') := by
        intro L0 v H1 H2 H3
        refine eX9_shift (K := 5) (by omega) ⟨_, rfl⟩ (m_isShelf (by omega) (fun _ _ _ => ?_) (fun hb => (no6 hs rfl hb).elim))
        rw [if_neg (by decide)]
        refine m_isShelf (by omega) (fun _ _ _ => ?_) (fun hb => (no6 hr rfl hb).elim)
        rw [if_neg (by decide)]
        refine ⟨_, rfl, _, ln_77 hs, ?_⟩
        by_cases e1 : A 77 s = -1
        · rw [if_pos e1]; exact xm_pi_i (H1 e1)
        rw [if_neg e1]
        refine ⟨_, rfl, _, ln_77 hr, ?_⟩
        by_cases e2 : A 77 r = -1
        · rw [if_pos e2]; exact xm_pi_i (H2 e1 e2)
        rw [if_neg e2]
        obtain ⟨H4, H5⟩ := H3 e1 e2
        refine ⟨_, rfl, _, ln_77 hs, ?_⟩
        by_cases e3 : A 77 s < 0
        · rw [if_pos e3]
          obtain ⟨H6, H7⟩ := H5 e3
          refine ⟨_, rfl, _, ln_77 hs, _, rfl, _, ln_77 hr, ?_⟩
          by_cases e4 : A 77 s = A 77 r
          · rw [if_pos e4]
            obtain ⟨i, i2, hi, hi2, h8, h9, K1, K2⟩ := H7 e4
            have P1 := pl_iff (x := x2) (z := x5) hi
            have P2 := pl_iff (x := x4) (z := x5) hi2
            by_cases a1 : x5 < 0
            · rw [if_pos a1]; exact xm_pi_i (K1 (fun q => (P1.mp q.1).2.1 a1))
            rw [if_neg a1]
            by_cases a2 : x2 < 0
            · rw [if_pos a2]; exact xm_pi_i (K1 (fun q => (P1.mp q.1).1 a2))
            rw [if_neg a2]
            by_cases a3 : x4 < 0
            · rw [if_pos a3]; exact xm_pi_i (K1 (fun q => (P2.mp q.2).1 a3))
            rw [if_neg a3]
            refine ⟨_, rfl, _, ln_78 hs, ?_⟩
            rw [h8]
            by_cases a4 : Int32.ofNat i - x5 < x2
            · rw [if_pos a4]; exact xm_pi_i (K1 (fun q => (P1.mp q.1).2.2 a4))
            rw [if_neg a4]
            refine ⟨_, rfl, _, ln_78 hr, ?_⟩
            rw [h9]
            by_cases a5 : Int32.ofNat i2 - x5 < x4
            · rw [if_pos a5]; exact xm_pi_i (K1 (fun q => (P2.mp q.2).2.2 a5))
            rw [if_neg a5]
            obtain ⟨k, m, ek, em, hkm⟩ := P1.mpr ⟨a2, a1, a4⟩
            obtain ⟨j, m', ej, em', hjm⟩ := P2.mpr ⟨a3, a1, a5⟩
            have := same (by omega) (by omega) em em'
            subst this
            have K3 := K2 k j m ek ej em hkm hjm
            rw [ek, ej, em]
            exact m_shift64 hs hr (by omega) (by omega) K3
          · rw [if_neg e4]; exact xm_pi_i (H6 e4)
        · rw [if_neg e3]; exact xm_pi_i (H4 e3)
      refine ⟨_, sh_f0 hs, ?_⟩
      rcases hI.one hs with ⟨h0, h7⟩ | ⟨h0, b, hb, -, h7⟩ | ⟨t, i, ht, hi, h0, h7, h2, h8, hL⟩
      · rw [if_pos h0]
        exact xm_pi_i (ref (fun _ => fail _) (fun q => absurd h7 q) (fun q => absurd h7 q))
      · rw [h0, if_neg (by decide)]
        have hb1 := b50 b (by omega)
        rw [← h7] at hb1
        refine ⟨_, sh_f0 hr, ?_⟩
        by_cases e1 : F (32 + 2 * r) 0 = -1
        · rw [if_pos e1]
          have e2 : A 77 r = -1 := by
            rcases hI.one hr with ⟨-, g7⟩ | ⟨g0, -⟩ | ⟨t2, i2, ht2, -, g0, -⟩
            · exact g7
            · rw [e1] at g0; exact absurd g0 (by decide)
            · rw [e1] at g0; exact absurd g0.symm (m2_t t2 ht2).2.2.2.1
          exact xm_pi_i (ref (fun q => absurd q hb1.1) (fun _ _ => fail _) (fun _ q => absurd e2 q))
        · rw [if_neg e1]
          refine ⟨_, sh_f0 hs, ?_⟩
          rw [if_pos h0]
          refine xm_pi_i (ref (fun q => absurd q hb1.1) (fun _ q => absurd ?_ e1) (fun _ _ => ⟨fun _ => fail _, fun q => absurd q hb1.2⟩))
          rcases hI.one hr with ⟨g0, -⟩ | ⟨g0, b2, hb2, -, g7⟩ | ⟨t2, i2, ht2, -, g0, g7, -⟩
          · exact g0
          · rw [q] at g7; exact absurd g7.symm (b50 b2 (by omega)).1
          · rw [q] at g7; exact absurd g7.symm (m2_t t2 ht2).1
      · have ht1 := m2_t t ht
        rw [h0, if_neg ht1.2.2.2.1]
        refine ⟨_, sh_f0 hr, ?_⟩
        rcases hI.one hr with ⟨g0, g7⟩ | ⟨g0, b2, hb2, -, g7⟩ | ⟨t2, i2, ht2, hi2, g0, g7, g2, g8, gL⟩
        · rw [if_pos g0]
          exact xm_pi_i (ref (fun q => absurd (h7.symm.trans q) ht1.1) (fun _ _ => fail _) (fun _ q => absurd g7 q))
        · rw [g0, if_neg (by decide)]
          refine ⟨_, sh_f0 hs, ?_⟩
          rw [h0, if_neg ht1.2.2.2.2]
          refine ⟨_, sh_f0 hs, _, sh_f0 hr, ?_⟩
          rw [h0, g0, if_neg ht1.2.2.2.2]
          have hne : A 77 s ≠ A 77 r := by
            rw [h7, g7]
            intro q
            have := ht1.2.1
            rw [q] at this
            exact (b50 b2 (by omega)).2 this
          exact xm_pi_i (ref (fun q => absurd (h7.symm.trans q) ht1.1) (fun _ q => absurd (g7.symm.trans q) (b50 b2 (by omega)).1) (fun _ _ => ⟨fun _ => fail _, fun _ => ⟨fun _ => fail _, fun q => absurd q hne⟩⟩))
        · have ht3 := m2_t t2 ht2
          rw [g0, if_neg ht3.2.2.2.1]
          refine ⟨_, sh_f0 hs, ?_⟩
          rw [h0, if_neg ht1.2.2.2.2]
          refine ⟨_, sh_f0 hs, _, sh_f0 hr, ?_⟩
          rw [h0, g0]
          have nn : ¬ A 77 s < 0 → False := fun q => q (by rw [h7]; exact ht1.2.1)
          by_cases et : t = t2
          · subst et
            rw [if_pos rfl]
            have e77 : A 77 s = A 77 r := by rw [h7, g7]
            refine c_hasPl (i := i) (by omega) hs hi h2 (fun p1 => ?_) (fun p1 => ?_)
            · rw [if_neg (by decide)]
              refine c_hasPl (i := i2) (by omega) hr hi2 g2 (fun p2 => ?_) (fun p2 => ?_)
              · rw [if_neg (by decide)]
                obtain ⟨k, m, ek, em, hkm⟩ := p1
                obtain ⟨j, m', ej, em', hjm⟩ := p2
                have := same (by omega) (by omega) em em'
                subst this
                refine ⟨_, sh_f3 hs, _, sh_f3 hr, ?_⟩
                rw [ek, ej, em]
                refine ⟨_, sh_cp hs hr (by omega) (by omega), xm_pi_i ?_⟩
                rw [← ek, ← ej, ← em]
                refine ref (fun q => absurd (h7.symm.trans q) ht1.1) (fun _ q => absurd (g7.symm.trans q) ht1.1) (fun _ _ => ⟨fun q => (nn q).elim, fun _ => ⟨fun q => absurd e77 q, fun _ => ⟨i, i2, hi, hi2, h8, g8, fun q => (q ⟨⟨k, m, ek, em, hkm⟩, ⟨j, m, ej, em, hjm⟩⟩).elim, fun k' j' m' ek' ej' em' _ _ L' l1 l2 => ?_⟩⟩⟩)
                have := same (by omega) (by omega) ek ek'
                subst this
                have := same (by omega) (by omega) ej ej'
                subst this
                have := same (by omega) (by omega) em em'
                subst this
                rw [em]
                have e79 : va_up L (33 + 2 * r) (va_cpy (L (33 + 2 * s)) (L (33 + 2 * r)) k j m) 79 = L 79 := u_ne (by omega)
                refine H _ _ _ _ _ _ _ (hI.shl1 hr Ag.rf (fun _ _ => rfl) (fun _ _ => rfl) (fun _ _ => rfl) (fun r' hr' hne => ?_) (fun k' hk' => ?_) (Or.inr (Or.inr ⟨t, i2, ht, hi2, g0, g7, g2, g8, fun k' hk' => ?_⟩)))
                · rw [l1 _ (by simp; omega), u_ne (by omega)]
                · rw [l2 k', if_neg (by omega), e79]
                · rw [l1 _ (by simp; omega), u_eq, cpy_at, l2, e79]
                  by_cases hc : j ≤ k' ∧ k' < j + m
                  · rw [if_pos hc, if_pos ⟨by omega, by omega⟩, hL _ (by omega)]
                    congr 1
                    omega
                  · rw [if_neg hc, if_neg (by omega)]; exact gL k' hk'
              · rw [if_pos rfl]
                exact xm_pi_i (ref (fun q => absurd (h7.symm.trans q) ht1.1) (fun _ q => absurd (g7.symm.trans q) ht1.1) (fun _ _ => ⟨fun q => (nn q).elim, fun _ => ⟨fun q => absurd e77 q, fun _ => ⟨i, i2, hi, hi2, h8, g8, fun _ => fail _, fun k' j' m' ek' ej' em' a1 a2 => (p2 ⟨j', m', ej', em', a2⟩).elim⟩⟩⟩))
            · rw [if_pos rfl]
              exact xm_pi_i (ref (fun q => absurd (h7.symm.trans q) ht1.1) (fun _ q => absurd (g7.symm.trans q) ht1.1) (fun _ _ => ⟨fun q => (nn q).elim, fun _ => ⟨fun q => absurd e77 q, fun _ => ⟨i, i2, hi, hi2, h8, g8, fun _ => fail _, fun k' j' m' ek' ej' em' a1 a2 => (p1 ⟨k', m', ek', em', a1⟩).elim⟩⟩⟩))
          · rw [if_neg (fun q => et ((n_eq (by omega) (by omega)).mp q))]
            have hne : A 77 s ≠ A 77 r := by rw [h7, g7]; exact fun q => et ((m2_inj t t2 ht ht2).mp q)
            exact xm_pi_i (ref (fun q => absurd (h7.symm.trans q) ht1.1) (fun _ q => absurd (g7.symm.trans q) ht3.1) (fun _ _ => ⟨fun q => (nn q).elim, fun _ => ⟨fun _ => fail _, fun q => absurd q hne⟩⟩))
    · refine xm_pi_i (eX9_shift (K := 5) (by omega) ⟨_, rfl⟩ (m_isShelf (by omega) (fun _ _ _ => ?_) (fun hb => (no6 hs he hb).elim)))
      rw [if_neg (by decide)]
      refine m_isShelf (by omega) (fun s' hs' he' => (no6 hs' he' hb).elim) (fun _ => ?_)
      rw [if_pos rfl]; exact xm_pi_i (fail _)
  · have go : xm_Call K sX9_shift 9 [.ref 44, .int x1, .int x2, .int x3, .int x4, .int x5] (HP A L F) (xm_pi fun c' h' => g (-1) c' h') := by
      refine eX9_shift (K := 5) (by omega) ⟨_, rfl⟩ (m_isShelf (by omega) (fun s' hs' he' => (no6 hs' he' hb).elim) (fun _ => ?_))
      rw [if_pos rfl]; exact xm_pi_i (fail _)
    exact c_shelfAt (by omega) (fun r hr hf => xm_pi_i go) (fun _ => xm_pi_i go)
/-! kinds -/
def chn (d : Nat) : List Nat := match d with
  | 0 => [0]
  | 1 => [1, 0]
  | 2 => [2, 0]
  | 3 => [3, 2, 0]
  | 4 => [4, 1, 0]
  | 5 => [5, 3, 2, 0]
  | 6 => [6, 0]
  | _ => [7, 6, 0]
def undS (d k : Nat) : Int32 := if k ∈ chn d then 1 else 0
def abI (d : Nat) : Int32 := match d with
  | 0 => -1
  | 1 => 0
  | 2 => 0
  | 3 => 2
  | 4 => 1
  | 5 => 3
  | 6 => 0
  | _ => 6
theorem eight (hd : d < 8) : d = 0 ∨ d = 1 ∨ d = 2 ∨ d = 3 ∨ d = 4 ∨ d = 5 ∨ d = 6 ∨ d = 7 := by omega
theorem st_ab (hd : d < 8) : xm_ld xm_st (HP A L F) 0 (1000 + 3) (Int32.ofNat d) = some (abI d) := by
  rcases eight hd with rfl | rfl | rfl | rfl | rfl | rfl | rfl | rfl <;> rfl
theorem c_isKind {g : Int32 → xm_H → Prop} (hK : 0 < K) (H : ∀ d, d < 8 → x = Int32.ofNat d → g 1 h) (H2 : (x < 0 ∨ ¬ x < 8) → g 0 h) : xm_Call K sX8_isKind 99 [.int x] h (xm_pi g) := by
  refine eX8_isKind (K := 0) hK ?_
  by_cases h0 : x < 0
  · rw [if_pos h0]; exact xm_pi_i (H2 (Or.inl h0))
  rw [if_neg h0]
  by_cases h8 : x < 8
  · rw [if_pos h8]
    obtain ⟨d, hd, he⟩ := n_of (n := 8) (by omega) h0 h8
    exact xm_pi_i (H d hd he)
  · rw [if_neg h8]; exact xm_pi_i (H2 (Or.inr h8))
theorem no8 (hd : d < 8) (he : x = Int32.ofNat d) (hb : x < 0 ∨ ¬ x < 8) : False := by
  subst he
  exact hb.elim (xs_nn (by omega)) (fun q => q ((n_lt (q := 8) (by omega) (by omega)).mpr hd))
theorem iu_step {g : Int32 → xm_H → Prop} (hK : 0 < K) (ha : a < 8) (ht : t < 8) (hk : k < 8) (H : a = k → g 1 (HP A L F)) (H2 : a ≠ k → xm_L K sX1_isUnder kX1_isUnder 4 [none, none, some (.int (Int32.ofNat k)), some (.int (abI a)), some (.int (Int32.ofNat (t + 1)))] [] (HP A L F) (xm_pi g)) : xm_L K sX1_isUnder kX1_isUnder 4 [none, none, some (.int (Int32.ofNat k)), some (.int (Int32.ofNat a)), some (.int (Int32.ofNat t))] [] (HP A L F) (xm_pi g) := by
  refine xX1_isUnder_4 ?_
  rw [if_pos (show Int32.ofNat t < (8 : Int32) from (n_lt (q := 8) (by omega) (by omega)).mpr ht)]
  refine c_isKind hK (fun _ _ _ => ?_) (fun hb => (no8 ha rfl hb).elim)
  rw [if_neg (by decide)]
  by_cases e : a = k
  · rw [if_pos (by rw [e])]; exact xm_pi_i (H e)
  · rw [if_neg (fun q => e ((n_eq (by omega) (by omega)).mp q)), n_succ]
    exact ⟨_, st_ab ha, H2 e⟩
theorem iu_end {g : Int32 → xm_H → Prop} (hK : 0 < K) (ht : t < 8) (H : g 0 (HP A L F)) : xm_L K sX1_isUnder kX1_isUnder 4 [none, none, some (.int (Int32.ofNat k)), some (.int (-1)), some (.int (Int32.ofNat t))] [] (HP A L F) (xm_pi g) := by
  refine xX1_isUnder_4 ?_
  rw [if_pos (show Int32.ofNat t < (8 : Int32) from (n_lt (q := 8) (by omega) (by omega)).mpr ht)]
  refine c_isKind hK (fun d hd he => ?_) (fun _ => ?_)
  · exact absurd he.symm (b50 d (by omega)).1
  · rw [if_pos rfl]; exact xm_pi_i H
theorem c_isUnder {g : Int32 → xm_H → Prop} (hK : 1 < K) (hd : d < 8) (hk : k < 8) (H : g (undS d k) (HP A L F)) : xm_Call K sX1_isUnder 1 [.ref 28, .int (Int32.ofNat d), .int (Int32.ofNat k)] (HP A L F) (xm_pi g) := by
  refine eX1_isUnder (K := 1) hK ⟨_, rfl⟩ ?_
  have one : k ∈ chn d → g 1 (HP A L F) := fun q => by unfold undS at H; rw [if_pos q] at H; exact H
  have nil : k ∉ chn d → g 0 (HP A L F) := fun q => by unfold undS at H; rw [if_neg q] at H; exact H
  clear H
  rcases eight hd with rfl | rfl | rfl | rfl | rfl | rfl | rfl | rfl
  · exact iu_step (t := 0) (by omega) (by omega) (by omega) hk (fun e => one (by simp [chn, ← e])) (fun e0 => iu_end (by omega) (by omega) (nil (by simp [chn]; omega)))
  · exact iu_step (t := 0) (by omega) (by omega) (by omega) hk (fun e => one (by simp [chn, ← e])) (fun e0 => iu_step (a := 0) (t := 1) (by omega) (by omega) (by omega) hk (fun e => one (by simp [chn, ← e])) (fun e1 => iu_end (by omega) (by omega) (nil (by simp [chn]; omega))))
  · exact iu_step (t := 0) (by omega) (by omega) (by omega) hk (fun e => one (by simp [chn, ← e])) (fun e0 => iu_step (a := 0) (t := 1) (by omega) (by omega) (by omega) hk (fun e => one (by simp [chn, ← e])) (fun e1 => iu_end (by omega) (by omega) (nil (by simp [chn]; omega))))
  · exact iu_step (t := 0) (by omega) (by omega) (by omega) hk (fun e => one (by simp [chn, ← e])) (fun e0 => iu_step (a := 2) (t := 1) (by omega) (by omega) (by omega) hk (fun e => one (by simp [chn, ← e])) (fun e1 => iu_step (a := 0) (t := 2) (by omega) (by omega) (by omega) hk (fun e => one (by simp [chn, ← e])) (fun e2 => iu_end (by omega) (by omega) (nil (by simp [chn]; omega)))))
  · exact iu_step (t := 0) (by omega) (by omega) (by omega) hk (fun e => one (by simp [chn, ← e])) (fun e0 => iu_step (a := 1) (t := 1) (by omega) (by omega) (by omega) hk (fun e => one (by simp [chn, ← e])) (fun e1 => iu_step (a := 0) (t := 2) (by omega) (by omega) (by omega) hk (fun e => one (by simp [chn, ← e])) (fun e2 => iu_end (by omega) (by omega) (nil (by simp [chn]; omega)))))
  · exact iu_step (t := 0) (by omega) (by omega) (by omega) hk (fun e => one (by simp [chn, ← e])) (fun e0 => iu_step (a := 3) (t := 1) (by omega) (by omega) (by omega) hk (fun e => one (by simp [chn, ← e])) (fun e1 => iu_step (a := 2) (t := 2) (by omega) (by omega) (by omega) hk (fun e => one (by simp [chn, ← e])) (fun e2 => iu_step (a := 0) (t := 3) (by omega) (by omega) (by omega) hk (fun e => one (by simp [chn, ← e])) (fun e3 => iu_end (by omega) (by omega) (nil (by simp [chn]; omega))))))
  · exact iu_step (t := 0) (by omega) (by omega) (by omega) hk (fun e => one (by simp [chn, ← e])) (fun e0 => iu_step (a := 0) (t := 1) (by omega) (by omega) (by omega) hk (fun e => one (by simp [chn, ← e])) (fun e1 => iu_end (by omega) (by omega) (nil (by simp [chn]; omega))))
  · exact iu_step (t := 0) (by omega) (by omega) (by omega) hk (fun e => one (by simp [chn, ← e])) (fun e0 => iu_step (a := 6) (t := 1) (by omega) (by omega) (by omega) hk (fun e => one (by simp [chn, ← e])) (fun e1 => iu_step (a := 0) (t := 2) (by omega) (by omega) (by omega) hk (fun e => one (by simp [chn, ← e])) (fun e2 => iu_end (by omega) (by omega) (nil (by simp [chn]; omega)))))
theorem m_isUnder {g : Int32 → xm_H → Prop} (hK : 0 < K) (hd : d < 8) (hk : k < 8) (H : g (undS d k) h) : xm_Call K sX9_isUnder 99 [.int (Int32.ofNat d), .int (Int32.ofNat k)] h (xm_pi g) := by
  refine eX9_isUnder (K := 0) hK ?_
  rcases eight hk with rfl | rfl | rfl | rfl | rfl | rfl | rfl | rfl <;> (repeat (first | rw [if_pos (show Int32.ofNat _ = (_ : Int32) from by decide)] | rw [if_neg (show ¬ Int32.ofNat _ = (_ : Int32) from by decide)])) <;> rcases eight hd with rfl | rfl | rfl | rfl | rfl | rfl | rfl | rfl <;> (repeat (first | rw [if_pos (by decide)] | rw [if_neg (by decide)])) <;> exact xm_pi_i H
theorem st_taken {g : Int32 → Int32 → xm_H → Prop} (hK : 40 ≤ K) (hI : INV A L F n nb tc) (H : Fin2 g) : xm_Call K sX8_taken 8 [.ref 0, .int x1, .int x2] (HP A L F) (xm_pi fun c h => xm_Call K sX9_taken 9 [.ref 44, .int x1, .int x2] h (xm_pi fun c' h' => g c c' h')) := by
  have hI0 := hI
  obtain ⟨-, -, -, ⟨⟨n0, n1, n2, n3⟩, -⟩, -⟩ := hI0
  have fail : ∀ v, g v v (HP A L F) := fun v => H _ _ _ _ _ _ _ hI
  have no7 : (x2 < 0 ∨ ¬ x2 < 8) → ¬ x2 < 0 → ¬ 7 < x2 → False := by
    intro hb h1 h2
    obtain ⟨k, hk, ek⟩ := i_le 7 (by omega) h1 h2
    exact no8 (by omega) ek hb
  refine eX8_taken (K := 5) (by omega) ⟨_, rfl⟩ (c_shelfAt (by omega) (fun s hs he => ?_) (fun hb => ?_))
  · refine c_isKind (by omega) (fun k hk ek => ?_) (fun hb => ?_)
    · rw [if_neg (by decide)]
      subst he; subst ek
      have ref : ∀ {v : Int32}, (A 77 s = -1 → g v (-11) (HP A L F)) → (A 77 s ≠ -1 → A 77 s < 0 → g v (-12) (HP A L F)) → (A 77 s ≠ -1 → ¬ A 77 s < 0 → ∃ b d, b < nb ∧ d < 8 ∧ A 77 s = Int32.ofNat b ∧ A 75 b = Int32.ofNat d ∧ (undS d k = 0 → g v (-12) (HP A L F)) ∧ (¬ undS d k = 0 → g v (Int32.ofNat d) (HP A L F))) → xm_Call K sX9_taken 9 [.ref 44, .int (Int32.ofNat s), .int (Int32.ofNat k)] (HP A L F) (xm_pi fun c' h' => g v c' h') := by
        intro v H1 H2 H3
        refine eX9_taken (K := 5) (by omega) ⟨_, rfl⟩ (m_isShelf (by omega) (fun _ _ _ => ?_) (fun hb => (no6 hs rfl hb).elim))
        rw [if_neg (by decide)]
        refine m_in2 (by omega) (fun _ _ => ?_) (fun hb => ?_)
        · rw [if_neg (by decide)]
          refine ⟨_, rfl, _, ln_77 hs, ?_⟩
          by_cases e1 : A 77 s = -1
          · rw [if_pos e1]; exact xm_pi_i (H1 e1)
          rw [if_neg e1]
          refine ⟨_, rfl, _, ln_77 hs, ?_⟩
          by_cases e2 : A 77 s < 0
          · rw [if_pos e2]; exact xm_pi_i (H2 e1 e2)
          rw [if_neg e2]
          obtain ⟨b, d, hb, hd, e3, e4, K1, K2⟩ := H3 e1 e2
          refine ⟨_, rfl, _, rfl, _, ln_77 hs, ?_⟩
          rw [e3]
          refine ⟨_, ln_75 (by omega), ?_⟩
          rw [e4]
          refine m_isUnder (by omega) hd hk ?_
          by_cases e5 : undS d k = 0
          · rw [if_pos e5]; exact xm_pi_i (K1 e5)
          · rw [if_neg e5]
            refine ⟨_, rfl, _, rfl, _, ln_77 hs, ?_⟩
            rw [e3]
            refine ⟨_, ln_75 (by omega), xm_pi_i ?_⟩
            rw [e4]; exact K2 e5
        · rcases hb with hb | hb
          · exact absurd hb (xs_nn (by omega))
          · exact absurd ((n_lt (p := 7) (by omega) (by omega)).mp hb) (by omega)
      refine ⟨_, sh_f0 hs, ?_⟩
      rcases hI.one hs with ⟨h0, h7⟩ | ⟨h0, b, hb, h1, h7⟩ | ⟨t, i, ht, hi, h0, h7, h2, h8, hL⟩
      · rw [if_pos h0]; exact xm_pi_i (ref (fun _ => fail _) (fun q => absurd h7 q) (fun q => absurd h7 q))
      · rw [h0, if_neg (by decide)]
        refine ⟨_, sh_f0 hs, ?_⟩
        rw [if_pos h0]
        refine ⟨_, rfl, _, sh_f1 hs, ?_⟩
        rw [h1]
        obtain ⟨d, hd, d1, d2⟩ := n3 b hb
        have hb1 := b50 b (by omega)
        rw [← h7] at hb1
        refine c_bhas (nb := nb) (by omega) n1 n0 (fun b' hb' eb' => ?_) (fun q => ?_)
        · rw [if_neg (by decide)]
          refine ⟨_, rfl, _, rfl, _, sh_f1 hs, ?_⟩
          rw [h1]
          refine ⟨_, ln_29 (by omega), _, rfl, ?_⟩
          rw [d1]
          refine c_isUnder (by omega) hd hk ?_
          by_cases e5 : undS d k = 0
          · rw [if_pos e5]; exact xm_pi_i (ref (fun q => absurd q hb1.1) (fun _ q => absurd q hb1.2) (fun _ _ => ⟨b, d, hb, hd, h7, d2, fun _ => fail _, fun q => absurd e5 q⟩))
          · rw [if_neg e5]; exact xm_pi_i (ref (fun q => absurd q hb1.1) (fun _ q => absurd q hb1.2) (fun _ _ => ⟨b, d, hb, hd, h7, d2, fun q => absurd q e5, fun _ => fail _⟩))
        · exact (q.elim (xs_nn (by omega)) (fun z => z ((n_lt (by omega) (by omega)).mpr hb))).elim
      · have ht1 := m2_t t ht
        rw [h0, if_neg ht1.2.2.2.1]
        refine ⟨_, sh_f0 hs, ?_⟩
        rw [h0, if_neg ht1.2.2.2.2]
        exact xm_pi_i (ref (fun q => absurd (h7.symm.trans q) ht1.1) (fun _ _ => fail _) (fun _ q => absurd (by rw [h7]; exact ht1.2.1) q))
    · rw [if_pos rfl]
      refine xm_pi_i (eX9_taken (K := 5) (by omega) ⟨_, rfl⟩ (m_isShelf (by omega) (fun _ _ _ => ?_) (fun hb => (no6 hs he hb).elim)))
      rw [if_neg (by decide)]
      refine m_in2 (by omega) (fun a1 a2 => (no7 hb a1 a2).elim) (fun _ => ?_)
      rw [if_pos rfl]; exact xm_pi_i (fail _)
  · refine xm_pi_i (eX9_taken (K := 5) (by omega) ⟨_, rfl⟩ (m_isShelf (by omega) (fun s' hs' he' => (no6 hs' he' hb).elim) (fun _ => ?_)))
    rw [if_pos rfl]; exact xm_pi_i (fail _)
end SHC
