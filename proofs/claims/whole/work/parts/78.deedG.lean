section DDG
variable {A : Nat → Nat → Int32} {L : Nat → Nat → Int64} {F : Nat → Nat → Int32} {gv : xm_H → Prop} {w n p k j y e m r o a d u K nb : Nat} {x x1 x2 x3 v z : Int32} {h : xm_H} {tc : (Nat → Int32) → Int32} {c : Nat → Int32}
theorem Bs.chg {A' F' : Nat → Nat → Int32} (hB : Bs A F n) (hF : F' 1 1 = F 1 1 ∧ F' 44 1 = F 44 1) (z2 : Zr (A' 2)) (z4 : Zr (A' 4)) (mz : Mz A' n) (hh : ∀ o a, plx o a → (A' 2 (cel o a) = A 2 (cel o a) ∧ A' (mC o) (mI o a) = A (mC o) (mI o a)) ∨ (plc n o a ∧ mayV o (A' 2 (cel o a)) ∧ A' (mC o) (mI o a) = A' 2 (cel o a))) : Bs A' F' n := by
  obtain ⟨⟨c1, c2, c3⟩, -, b5, b6, b7⟩ := hB
  refine ⟨⟨by rw [hF.1]; exact c1, by rw [hF.2]; exact c2, c3⟩, ⟨z2, z4, mz⟩, fun o a hp => ?_, fun o a h1 h2 h3 => ?_, fun o a hx => ?_⟩
  · rcases hh o a (plc_x c3 hp) with ⟨e, -⟩ | ⟨-, e, -⟩
    · rw [e]; exact b5 o a hp
    · exact e
  · have hx : plx o a := Or.inl ⟨by omega, h3⟩
    have ec : cel o a = 8 * o + a := by unfold cel; rw [if_pos (by omega)]
    rcases hh o a hx with ⟨e, -⟩ | ⟨e, -⟩
    · rw [ec] at e; rw [e]; exact b6 o a h1 h2 h3
    · unfold plc at e; omega
  · rcases hh o a hx with ⟨e, e'⟩ | ⟨-, -, e⟩
    · rw [e, e']; exact b7 o a hx
    · exact e
theorem ModOk.to {A' F' : Nat → Nat → Int32} {S : List Nat} (h : ModOk A F tc n y c) (s : Ag S A A') (hS : ∀ k ∈ S, k < 45) (hF : F' 44 = F 44) : ModOk A' F' tc n y c := by
  obtain ⟨⟨⟨a1, a2, a3, a4, a5, a6⟩, a7, a8, a9, a10, a11⟩, t⟩ := h
  have e : ∀ k, 45 ≤ k → A' k = A k := fun k hk => s k (fun q => absurd (hS k q) (by omega))
  refine ⟨⟨⟨by rw [hF]; exact a1, a2, a3, by rw [e 53 (by omega)]; exact a4, by rw [e 53 (by omega)]; exact a5, by rw [e 53 (by omega)]; exact a6⟩, fun p hp => ?_, by rw [e 52 (by omega)]; exact a8, a9, a10, fun p h1 h2 => ?_⟩, t.to s ⟨fun q => absurd (hS _ q) (by omega), fun q => absurd (hS _ q) (by omega), fun q => absurd (hS _ q) (by omega), fun q => absurd (hS _ q) (by omega), fun q => absurd (hS _ q) (by omega)⟩ (by rw [hF])⟩
  · rw [e 45 (by omega), e 46 (by omega), e 47 (by omega), e 48 (by omega), e 49 (by omega), e 50 (by omega), e 51 (by omega)]
    exact a7 p hp
  · rw [e 66 (by omega), e 67 (by omega), e 68 (by omega), e 69 (by omega)]
    exact a11 p h1 h2
def led3 (f : Nat → Int32) (s l : Int32) : Nat → Int32 := upd (upd (upd f 2 (f 2 + 1)) 3 (f 3 + s)) 4 (f 4 + l)
theorem q_year {g : Int32 → xm_H → Prop} (hK : 7 < K) (hN : NowOk A F tc n y) (H : ∀ A' F', Ag [2, 8, 9, 10, 11, 12, 20] A A' → A' 2 = yrS tc (A 2) n y → Ag [5] F F' → A' 20 = led3 (A 20) (sPaid tc (A 2) n y (earsOf (A 2) n)) (lackS (A 2) y (sSh tc (A 2) n y (earsOf (A 2) n)) n) → g (sPaid tc (A 2) n y (earsOf (A 2) n)) (HP A' L F')) : xm_Call K sX8_year 8 [.ref 0] (HP A L F) (xm_pi g) := by
  refine eX8_year (K := 7) hK ⟨_, rfl⟩ ⟨_, rfl, _, rfl, c_endYear (tc := tc) (by omega) hN.1 hN.2.1 (fun A1 F1 a1 a2 f1 r1 l1 => ?_)⟩
  have e20 : A1 20 = A 20 := a1 20 (by simp)
  refine ⟨_, rfl, _, ln_20 (j := 2) (by omega), _, sn_20 (j := 2) (by omega), _, rfl, _, ln_20 (j := 3) (by omega), _, rfl, _, rfl, _, sn_20 (j := 3) (by omega), _, rfl, _, ln_20 (j := 4) (by omega), _, rfl, _, rfl, _, sn_20 (j := 4) (by omega), _, rfl, _, rfl, xm_pi_i ?_⟩
  obtain ⟨-, -, -, -, -, r6⟩ := r1
  rw [r6, l1]
  refine H _ _ (Ag.up (Ag.up (Ag.up (a1.mono (fun k hk => by simp at hk ⊢; omega)) (by simp)) (by simp)) (by simp)) a2 f1 ?_
  show upd (upd (upd (A1 20) 2 (A1 20 2 + 1)) 3 (A1 20 3 + _)) 4 (A1 20 4 + _) = _
  rw [e20]; rfl
theorem r_year {g : Int32 → xm_H → Prop} (hK : 7 < K) (hM : ModOk A F tc n y c) (hR : Rng c) (H : ∀ A' F', Ag [46, 47, 53, 64, 65, 66, 67, 68, 69, 70, 71, 72] A A' → Ag [44] F F' → (∀ k, k < 36 ∨ 43 < k → F' 44 k = F 44 k) → Mz A' n → (∀ q, q < 8 → A' 46 q = yrS tc c n y (8 + q) ∧ A' 47 q = yrS tc c n y (16 + q)) → A' 53 = upd (A 53) 0 (Int32.ofNat (min 199 (y + 1))) → A' 72 = led3 (A 72) (sPaid tc c n y (earsOf c n)) (lackS c y (sSh tc c n y (earsOf c n)) n) → g (sPaid tc c n y (earsOf c n)) (HP A' L F')) : xm_Call K sX9_year 9 [.ref 44] (HP A L F) (xm_pi g) := by
  have hn8 := hM.1.1.2.1
  refine eX9_year (K := 7) hK ⟨_, rfl⟩ (m_layNow (by omega) hM.1 (fun A1 F1 q1 _ w1 => m_goYears (tc := tc) (m := 1) (by omega) (by omega) hM.2 hM.1.2.2.1 hR q1 w1 (fun A2 F2 q2 w2 d1 d2 => ?_)))
  have p1 : F2 44 42 = sPaid tc c n y (earsOf c n) := by rw [d1]; show (0 : Int32) + _ = _; rw [Int32.zero_add]; rfl
  have l1 : F2 44 43 = lackS c y (sSh tc c n y (earsOf c n)) n := by rw [d2]; show (0 : Int32) + _ = _; rw [Int32.zero_add]; rfl
  refine xm_for (n := n) (Q := fun p h => xm_L 7 sX9_year kX9_year 7 [some (.ref 44), some (.int (Int32.ofNat p))] [] h (xm_pi g)) (fun p h => ∃ A', h = HP A' L F2 ∧ Ag [46, 47] A2 A' ∧ (∀ q, A' 46 q = if q < p then A2 68 q else A2 46 q) ∧ ∀ q, A' 47 q = if q < p then A2 69 q else A2 47 q) ?_ ?_ 0 _ (Nat.zero_le _) ⟨A2, rfl, Ag.rf, fun q => by rw [if_neg (by omega)], fun q => by rw [if_neg (by omega)]⟩
  · rintro p h hp ⟨A3, rfl, h1, h2, h3⟩ ih
    refine xX9_year_7 ⟨_, rfl, ?_⟩
    rw [q2.2.2.1 1 (by omega), hM.1.1.1, if_pos ((n_lt (by omega) (by omega)).mpr hp), n_succ]
    refine ⟨_, rfl, _, rfl, _, ln_68 (by omega), _, sn_46 (by omega), _, rfl, _, rfl, _, ln_69 (by omega), _, sn_47 (by omega), ih _ ⟨_, rfl, Ag.up (Ag.up h1 (by simp)) (by simp), fun q => ?_, fun q => ?_⟩⟩
    · show upd (A3 46) p (A3 68 p) q = _
      exact gy_upd (t := fun q => A2 68 q) h2 (by rw [h1 68 (by simp)]) q
    · show upd (A3 47) p (A3 69 p) q = _
      exact gy_upd (t := fun q => A2 69 q) h3 (by rw [h1 69 (by simp)]) q
  · rintro h ⟨A3, rfl, h1, h2, h3⟩
    refine xX9_year_7 ⟨_, rfl, ?_⟩
    rw [q2.2.2.1 1 (by omega), hM.1.1.1, if_neg (n_ge (by omega) (by omega) (Nat.le_refl _))]
    refine ⟨_, rfl, _, rfl, _, sn_53 (j := 0) (by omega), _, rfl, _, ln_72 (j := 2) (by omega), _, sn_72 (j := 2) (by omega), _, rfl, _, ln_72 (j := 3) (by omega), _, rfl, _, sn_72 (j := 3) (by omega), _, rfl, _, ln_72 (j := 4) (by omega), _, rfl, _, sn_72 (j := 4) (by omega), _, rfl, xm_pi_i ?_⟩
    rw [p1, l1]
    have a3 : Ag [46, 47, 53, 64, 65, 66, 67, 68, 69, 70, 71, 72] A A3 := Ag.tr (q2.1.mono (fun k hk => by simp at hk ⊢; omega)) (h1.mono (fun k hk => by simp at hk ⊢; omega))
    have e37 : F2 44 37 = Int32.ofNat (min 199 (y + 1)) := w2.1.2.2.2.1
    refine H _ _ (Ag.up (Ag.up (Ag.up (Ag.up a3 (by simp)) (by simp)) (by simp)) (by simp)) q2.2.1 q2.2.2.1 (fun q b1 b2 => ?_) (fun q hq => ?_) ?_ ?_
    · show A3 66 q = 0 ∧ A3 67 q = 0 ∧ A3 68 q = 0 ∧ A3 69 q = 0
      rw [h1 66 (by simp), h1 67 (by simp), h1 68 (by simp), h1 69 (by simp)]
      exact q2.2.2.2 q b1 b2
    · show A3 46 q = _ ∧ A3 47 q = _
      rw [h2 q, h3 q]
      by_cases hqn : q < n
      · rw [if_pos hqn, if_pos hqn]
        obtain ⟨-, b1, b2, -⟩ := w2.2.1 q hq
        exact ⟨b1, b2⟩
      · rw [if_neg hqn, if_neg hqn, q2.1 46 (by simp), q2.1 47 (by simp)]
        obtain ⟨-, b1, b2, -⟩ := hM.1.2.1 q hq
        have y8 : yrS tc c n y (8 + q) = c (8 + q) := by unfold yrS; rw [p_ne (by omega)]; exact yrC_at _ _ _ _ _ hn8 (by omega)
        have y16 : yrS tc c n y (16 + q) = c (16 + q) := by unfold yrS; rw [p_ne (by omega)]; exact yrC_at _ _ _ _ _ hn8 (by omega)
        rw [y8, y16]; exact ⟨b1, b2⟩
    · show upd (A3 53) 0 (F2 44 37) = _
      rw [e37, h1 53 (by simp), q2.1 53 (by simp)]
    · show upd (upd (upd (A3 72) 2 (A3 72 2 + 1)) 3 (A3 72 3 + _)) 4 (A3 72 4 + _) = _
      rw [h1 72 (by simp), q2.1 72 (by simp)]; rfl
theorem bd_mayV {b : Nat} (hb : b < 10000) (hl : lstI o = 0) (hm : mstI o = Int32.ofNat b) (h : bd v (b : Int)) : mayV o v := by
  have t0 : (0 : Int32).toInt = 0 := rfl
  unfold bd at h
  refine ⟨?_, ?_⟩
  · rw [hl, Int32.lt_iff_toInt_lt]; omega
  · rw [hm, Int32.lt_iff_toInt_lt, n_ti (by omega)]; omega
theorem nat_mayV {b q : Nat} (hb : b < 10000) (hl : lstI o = 0) (hm : mstI o = Int32.ofNat b) (hq : q ≤ b) : mayV o (Int32.ofNat q) := by
  refine bd_mayV hb hl hm ?_
  unfold bd
  rw [n_ti (by omega)]; omega
theorem cel_o (h : o ≤ 7) : cel o a = 8 * o + a := by unfold cel; rw [if_pos h]
theorem st_year {g : Int32 → Int32 → xm_H → Prop} (hK : 40 ≤ K) (hI : INV A L F n nb tc) (H : Fin2 g) : xm_Call K sX8_year 8 [.ref 0] (HP A L F) (xm_pi fun c h => xm_Call K sX9_year 9 [.ref 44] h (xm_pi fun c' h' => g c c' h')) := by
  have hI0 := hI
  obtain ⟨⟨hB, hT, hX⟩, ⟨hC, hL, hM⟩, -⟩ := hI0
  obtain ⟨y, hN, hMo, hR⟩ := hB.ok hT hX
  have hn8 := hB.1.2.2
  refine q_year (tc := tc) (n := n) (y := y) (by omega) hN (fun A1 F1 a1 e1 f1 g1 => ?_)
  refine r_year (tc := tc) (n := n) (y := y) (c := A 2) (by omega) (hMo.to a1 (fun k hk => by simp at hk; omega) (f1 44 (by simp))) hR (fun A2 F2 a2 f2 f4 mz e46 e53 e72 => H _ _ _ _ n nb tc ?_)
  have eA : ∀ k, k ∉ [2, 8, 9, 10, 11, 12, 20, 46, 47, 53, 64, 65, 66, 67, 68, 69, 70, 71, 72] → A2 k = A k := fun k hk => by
    simp at hk
    exact (a2 k (by simp; omega)).trans (a1 k (by simp; omega))
  have eF : ∀ k, k ≠ 5 → k ≠ 44 → F2 k = F k := fun k h1 h2 => (f2 k (by simp; omega)).trans (f1 k (by simp; omega))
  have e44 : ∀ k, k < 36 ∨ 43 < k → F2 44 k = F 44 k := fun k hk => by rw [f4 k hk, f1 44 (by simp)]
  have e2 : A2 2 = yrS tc (A 2) n y := (a2 2 (by simp)).trans e1
  have e20 : A2 20 = led3 (A 20) _ _ := (a2 20 (by simp)).trans g1
  have hRy := yrS_Rng (tc := tc) (y := y) hR hn8
  refine hI.re (n' := n) (hB.chg ⟨by rw [eF 1 (by omega) (by omega)], e44 1 (by omega)⟩ (by rw [e2]; exact yrS_Zr hB.2.1.1 hn8) (by rw [eA 4 (by simp)]; exact hB.2.1.2.1) mz (fun o a hx => ?_)) (fun k hk => eA k (by simp at hk ⊢; omega)) (fun k hk => eF k (by simp at hk; omega) (by simp at hk; omega)) (fun k hk => e44 k (by simp at hk; omega)) (hC.to ⟨eA 17 (by simp), eA 18 (by simp), eA 19 (by simp), eA 54 (by simp), eA 55 (by simp), eA 56 (by simp), eA 57 (by simp)⟩ ⟨by rw [eF 16 (by omega) (by omega)], by rw [eF 16 (by omega) (by omega)], e44 11 (by omega), e44 12 (by omega)⟩) (fun j hj => ?_) (hM.to (Nat.le_refl _) ⟨eA 22 (by simp), eA 23 (by simp), eA 73 (by simp), eA 74 (by simp)⟩ ⟨by rw [eF 0 (by omega) (by omega)], by rw [eF 21 (by omega) (by omega)], e44 45 (by omega), e44 46 (by omega), e44 47 (by omega)⟩)
  · rw [e2]
    by_cases h1 : o = 1
    · subst h1
      have ha : a < 8 := by unfold plx at hx; omega
      have e4 : A2 46 a = yrS tc (A 2) n y (8 + a) := (e46 a ha).1
      by_cases han : a < n
      · exact Or.inr ⟨Or.inl ⟨by omega, han⟩, bd_mayV (b := 9999) (by omega) rfl rfl (hRy.1 a ha).1, e4⟩
      · have y8 : yrS tc (A 2) n y (8 + a) = A 2 (8 + a) := by unfold yrS; rw [p_ne (by omega)]; exact yrC_at _ _ _ _ _ hn8 (by omega)
        refine Or.inl ⟨y8, ?_⟩
        show A2 46 a = A 46 a
        rw [e4, y8]; exact (hB.2.2.2.2 1 a hx).symm
    by_cases h2 : o = 2
    · subst h2
      have ha : a < 8 := by unfold plx at hx; omega
      have e4 : A2 47 a = yrS tc (A 2) n y (16 + a) := (e46 a ha).2
      by_cases han : a < n
      · exact Or.inr ⟨Or.inl ⟨by omega, han⟩, bd_mayV (b := 99) (by omega) rfl rfl (hRy.1 a ha).2.1, e4⟩
      · have y8 : yrS tc (A 2) n y (16 + a) = A 2 (16 + a) := by unfold yrS; rw [p_ne (by omega)]; exact yrC_at _ _ _ _ _ hn8 (by omega)
        refine Or.inl ⟨y8, ?_⟩
        show A2 47 a = A 47 a
        rw [e4, y8]; exact (hB.2.2.2.2 2 a hx).symm
    by_cases h8 : o = 8
    · subst h8
      have ha : a = 0 := by unfold plx at hx; omega
      subst ha
      have hy := hN.1.2.2.2.1
      have e64 : yrS tc (A 2) n y 64 = Int32.ofNat (min 199 (y + 1)) := by unfold yrS; rw [p_eq]; exact n_min y hy
      refine Or.inr ⟨Or.inr (Or.inr ⟨by omega, by omega, rfl⟩), ?_, ?_⟩
      · show mayV 8 (yrS tc (A 2) n y 64)
        rw [e64]
        exact nat_mayV (b := 199) (by omega) rfl rfl (by omega)
      · show A2 53 0 = yrS tc (A 2) n y 64
        rw [e53, p_eq, e64]
    · left
      have hk : cel o a < 8 ∨ (24 ≤ cel o a ∧ cel o a < 64) ∨ 64 < cel o a := by
        unfold plx at hx; unfold cel; split <;> omega
      refine ⟨yrS_at hn8 hk, ?_⟩
      have hg := mC_ge (o := o)
      have ho : o ≤ 10 := by unfold plx at hx; omega
      have hg2 := hg.2 ho
      by_cases h53 : 8 ≤ o
      · have em : mC o = 53 := by unfold mC; rw [if_neg (by omega)]
        have ei : mI o a = o - 8 := by unfold mI; rw [if_neg (by omega)]
        rw [em, ei, e53, p_ne (by omega), a1 53 (by simp)]
      · have em : mC o = 45 + o := by unfold mC; rw [if_pos (by omega)]
        rw [em, eA (45 + o) (by simp; omega)]
  · rw [e20, e72, a1 72 (by simp)]
    have hl : ∀ i, i < 6 → A 20 i = A 72 i := hL
    unfold led3
    rw [hl 2 (by omega), hl 3 (by omega), hl 4 (by omega)]
    unfold upd
    split
    · rfl
    · split
      · rfl
      · split
        · rfl
        · exact hl j hj
end DDG
