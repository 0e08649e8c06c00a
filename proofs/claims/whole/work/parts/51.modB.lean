section MDB
variable {A : Nat → Nat → Int32} {L : Nat → Nat → Int64} {F : Nat → Nat → Int32} {g : Int32 → xm_H → Prop} {gv : xm_H → Prop} {w n p k j y e m K : Nat} {x v z : Int32} {h : xm_H} {tc : (Nat → Int32) → Int32} {c : Nat → Int32}
theorem ears_bit : (earsOf c n).testBit p = decide (p < n ∧ c (40 + p) = 1) := bitsN_bit (hrd c) n p
theorem sAs_in (hp : p < n) : sAs tc c n y (earsOf c n) p = if c (24 + p) = 1 then (if c (40 + p) = 1 then cntW tc c n y p else 0) else 0 := by
  unfold sAs asd wgt
  rw [ears_bit]
  by_cases h1 : c (24 + p) = 1 <;> by_cases h2 : c (40 + p) = 1 <;> simp [hp, h1, h2]
theorem sAs_out (hp : n ≤ p) : sAs tc c n y e p = 0 := by
  unfold sAs asd wgt
  have hz : ¬ (p < n ∧ c (24 + p) = 1) := fun q => absurd q.1 (by omega)
  rw [if_neg hz]
  split <;> rfl
theorem sumN_cut {f : Nat → Int32} : ∀ m, n ≤ m → (∀ q, n ≤ q → q < m → f q = 0) → sumN f m = sumN f n
  | 0, h, _ => by have : n = 0 := by omega
                  subst this; rfl
  | m + 1, h, hz => by
    by_cases he : n = m + 1
    · rw [he]
    · show sumN f m + f m = _
      rw [sumN_cut m (by omega) (fun q h1 h2 => hz q h1 (by omega)), hz m (by omega) (by omega)]
      exact Int32.add_zero _
theorem sTot_n (hn : n ≤ 8) : sTot tc c n y e = sumN (sAs tc c n y e) n := sumN_cut 8 hn (fun q h1 _ => sAs_out h1)
/-- what the reference holds behind assess() -/
def MsR (tc : (Nat → Int32) → Int32) (c : Nat → Int32) (n y : Nat) (A' F' : Nat → Nat → Int32) : Prop := (∀ q, q < n → A' 70 q = sAs tc c n y (earsOf c n) q) ∧ F' 44 39 = sTot tc c n y (earsOf c n)
def asI (tc : (Nat → Int32) → Int32) (A F : Nat → Nat → Int32) (L : Nat → Nat → Int64) (c : Nat → Int32) (n y p : Nat) (h : xm_H) : Prop := ∃ A' F', h = HP A' L F' ∧ Ms A F A' F' ∧ (∀ q, q < p → A' 70 q = sAs tc c n y (earsOf c n) q) ∧ F' 44 39 = sumN (sAs tc c n y (earsOf c n)) p
theorem m_assess (hK : 4 < K) (hw : Mw A F n y c) (ht : TXm A F tc) (H : ∀ A' F', Ms A F A' F' → MsR tc c n y A' F' → gv (HP A' L F')) : xm_Call K sX9_assess 9 [.ref 44] (HP A L F) (xm_pv gv) := by
  have hn8 := hw.1.2.1
  refine eX9_assess (K := 4) hK ⟨_, rfl⟩ ⟨_, p_44_39, ?_⟩
  refine xm_for (n := n) (Q := fun p h => xm_L 4 sX9_assess kX9_assess 5 [some (.ref 44), some (.int (Int32.ofNat p))] [] h (xm_pv gv)) (asI tc A F L c n y) ?_ ?_ 0 _ (Nat.zero_le _) ⟨A, _, rfl, ⟨Ag.rf, Ag.up Ag.rf (by simp), fun k hk => by rw [u_eq, u_ne hk]⟩, fun q hq => absurd hq (by omega), by rw [u_eq, u_eq]; rfl⟩
  · rintro p h hp ⟨A', F', rfl, s1, h1, h2⟩ ih
    have hw1 := s1.mw hw
    obtain ⟨b0, b1, b2, b3, b4, b5, b6⟩ := hw1.2.1 p (by omega)
    have step : ∀ (v : Int32) (B : Nat → Nat → Int32), Ag [64, 65] A' B → v = sAs tc c n y (earsOf c n) p → ∃ h9, xm_sto (HP B L F') 0 70 (Int32.ofNat p) v = some h9 ∧ ∃ f10, xm_fld h9 44 9 39 = some (.int f10) ∧ ∃ q11, xm_fld h9 44 9 35 = some (.ref q11) ∧ ∃ e12, xm_ld xm_st h9 0 q11 (Int32.ofNat p) = some e12 ∧ ∃ h13, xm_put h9 44 9 39 (.int (f10 + e12)) = some h13 ∧ xm_L 4 sX9_assess kX9_assess 5 [some (.ref 44), some (.int (Int32.ofNat p + (1 : Int32)))] [] h13 (xm_pv gv) := by
      intro v B hB hv
      refine ⟨_, sn_70 (by omega), _, rfl, _, rfl, _, ln_70 (by omega), _, p_44_39, ?_⟩
      rw [n_succ, u_eq, p_eq]
      refine ih _ ⟨_, _, rfl, s1.tr ⟨Ag.up (hB.mono (fun k hk => by simp at hk ⊢; omega)) (by simp), Ag.up Ag.rf (by simp), fun k hk => by rw [u_eq, u_ne hk]⟩, ?_, ?_⟩
      · rw [u_eq]; exact fill (fun q hq => by rw [hB 70 (by simp)]; exact h1 q hq) hv
      · rw [u_eq, u_eq, h2, hv]; rfl
    refine xX9_assess_5 ⟨_, rfl, ?_⟩
    rw [hw1.1.1, if_pos ((n_lt (by omega) (by omega)).mpr hp)]
    refine ⟨_, rfl, _, rfl, _, ln_66 (by omega), ?_⟩
    rw [b3]
    by_cases a1 : c (24 + p) = 1
    · rw [if_pos a1]
      refine ⟨_, rfl, _, ln_67 (by omega), ?_⟩
      rw [b5]
      by_cases a2 : c (40 + p) = 1
      · rw [if_pos a2]
        refine m_countsBy (tc := tc) (n := n) (y := y) (c := c) (by omega) hw1 hp (ht.to s1.1 (by simp) (s1.2.2 30 (by omega))) (fun B hB => ?_)
        exact step _ B hB (by rw [sAs_in hp, if_pos a1, if_pos a2])
      · rw [if_neg a2]
        exact step _ A' Ag.rf (by rw [sAs_in hp, if_pos a1, if_neg a2])
    · rw [if_neg a1]
      exact step _ A' Ag.rf (by rw [sAs_in hp, if_neg a1])
  · rintro h ⟨A', F', rfl, s1, h1, h2⟩
    refine xX9_assess_5 ⟨_, rfl, ?_⟩
    rw [(s1.mw hw).1.1, if_neg (fun q => absurd ((n_lt (by omega) (by omega)).mp q) (by omega))]
    exact xm_pv_i (H A' F' s1 ⟨h1, by rw [sTot_n hn8]; exact h2⟩)
theorem m_theBill (hK : 0 < K) (hw : Mw A F n y c) (H : g (whl c y) (HP A L F)) : xm_Call K sX9_theBill 9 [.ref 44] (HP A L F) (xm_pi g) := by
  refine eX9_theBill (K := 0) hK ⟨_, rfl⟩ ⟨_, rfl, _, rfl, xm_pi_i ?_⟩
  rw [hw.1.2.2.2.2.2.1, hw.1.2.2.2.2.1]; exact H
theorem m_shareOf (hK : 1 < K) (hw : Mw A F n y c) (hr : MsR tc c n y A F) (hp : p < n) (H : g (sSh tc c n y (earsOf c n) p) (HP A L F)) : xm_Call K sX9_shareOf 9 [.ref 44, .int (Int32.ofNat p)] (HP A L F) (xm_pi g) := by
  have hn8 := hw.1.2.1
  have e1 : F 44 39 = sumN (asd (earsOf c n) (wgt tc c n y)) 8 := hr.2
  refine eX9_shareOf (K := 1) hK ⟨_, rfl⟩ ⟨_, rfl, ?_⟩
  rw [e1]
  unfold sSh shr at H
  by_cases h0 : sumN (asd (earsOf c n) (wgt tc c n y)) 8 = 0
  · rw [if_pos h0] at H ⊢; exact xm_pi_i H
  · rw [if_neg h0] at H ⊢
    refine m_theBill (n := n) (y := y) (c := c) (by omega) hw ⟨_, rfl, _, ln_70 (by omega), _, rfl, ?_⟩
    rw [e1]
    refine ⟨h0, xm_pi_i ?_⟩
    rw [hr.1 p hp]; exact H
theorem m_shareNow (hK : 5 < K) (hw : Mw A F n y c) (ht : TXm A F tc) (hp : p < n) (H : ∀ A' F', Ms A F A' F' → g (sSh tc c n y (earsOf c n) p) (HP A' L F')) : xm_Call K sX9_shareNow 9 [.ref 44, .int (Int32.ofNat p)] (HP A L F) (xm_pi g) :=
  eX9_shareNow (K := 5) hK ⟨_, rfl⟩ (m_assess (by omega) hw ht (fun A1 F1 s1 r1 => m_shareOf (n := n) (y := y) (c := c) (by omega) (s1.mw hw) r1 hp (xm_pi_i (H A1 F1 s1))))
theorem m_worthBy (hK : 6 < K) (hw : Mw A F n y c) (ht : TXm A F tc) (hp : p < n) (H : ∀ A' F', Ms A F A' F' → g (wrt tc c n y p) (HP A' L F')) : xm_Call K sX9_worthBy 9 [.ref 44, .int (Int32.ofNat p)] (HP A L F) (xm_pi g) := by
  have hn8 := hw.1.2.1
  refine eX9_worthBy (K := 6) hK ⟨_, rfl⟩ (m_shareNow (by omega) hw ht hp (fun A1 F1 s1 => ?_))
  have hw1 := s1.mw hw
  obtain ⟨b0, b1, b2, b3, b4, b5, b6⟩ := hw1.2.1 p (by omega)
  have hh := H A1 F1 s1
  unfold wrt gainS at hh
  refine m_leaves (by omega) hw1 (by omega) ?_
  have ring1 : ∀ s a b : Int32, a + b - s = -s + a + b := fun s a b => by rw [Int32.sub_eq_add_neg, Int32.add_comm, Int32.add_assoc]
  have ring2 : ∀ s a : Int32, a - s = -s + a := fun s a => by rw [Int32.sub_eq_add_neg, Int32.add_comm]
  by_cases h2 : c (24 + p) < 2
  · rw [if_pos h2, if_pos rfl]
    simp only [if_pos h2] at hh
    refine m_says (by omega) hw1 (by omega) ?_
    by_cases hs : c (24 + p) = 1 ∨ c (24 + p) = 2
    · rw [if_pos hs] at hh ⊢
      rw [if_neg (by decide)]
      refine ⟨_, rfl, _, ln_53 (j := 2) (by omega), xm_pi_i ?_⟩
      rw [hw1.1.2.2.2.2.2.2]
      rw [ring1, Int32.add_zero] at hh
      exact hh
    · rw [if_neg hs] at hh ⊢
      rw [if_pos rfl]
      rw [ring2, Int32.add_zero] at hh
      exact xm_pi_i hh
  · rw [if_neg h2, if_neg (by decide)]
    simp only [if_neg h2] at hh
    refine ⟨_, rfl, _, ln_45 (by omega), _, rfl, by decide, m_says (by omega) hw1 (by omega) ?_⟩
    rw [b0, hw1.1.2.2.2.2.2.1]
    by_cases hs : c (24 + p) = 1 ∨ c (24 + p) = 2
    · rw [if_pos hs] at hh ⊢
      rw [if_neg (by decide)]
      refine ⟨_, rfl, _, ln_53 (j := 2) (by omega), xm_pi_i ?_⟩
      rw [hw1.1.2.2.2.2.2.2]
      rw [ring1] at hh
      exact hh
    · rw [if_neg hs] at hh ⊢
      rw [if_pos rfl]
      rw [ring2] at hh
      exact xm_pi_i hh
/-- a habit is tried: the world is another -/
theorem mw_habit (hw : Mw A F n y c) (hp : p < n) : Mw (va_up A 66 (upd (A 66) p x)) F n y (upd c (24 + p) x) := by
  obtain ⟨⟨a1, a2, a3, a4, a5, a6, a7⟩, a8, a9⟩ := hw
  refine ⟨⟨a1, a2, a3, a4, by rw [p_ne (by omega)]; exact a5, by rw [p_ne (by omega)]; exact a6, by rw [u_ne (by omega), p_ne (by omega)]; exact a7⟩, fun q hq => ?_, fun q hq => by rw [p_ne (by omega)]; exact a9 q hq⟩
  obtain ⟨b0, b1, b2, b3, b4, b5, b6⟩ := a8 q hq
  rw [u_ne (by omega), u_ne (by omega), u_ne (by omega), u_eq, u_ne (by omega), u_ne (by omega), u_ne (by omega)]
  refine ⟨by rw [p_ne (by omega)]; exact b0, by rw [p_ne (by omega)]; exact b1, by rw [p_ne (by omega)]; exact b2, ?_, by rw [p_ne (by omega)]; exact b4, by rw [p_ne (by omega)]; exact b5, by rw [p_ne (by omega)]; exact b6⟩
  by_cases hqp : q = p
  · subst hqp; rw [p_eq, p_eq]
  · rw [p_ne hqp, p_ne (by omega)]; exact b3
theorem m_worthWith (hK : 7 < K) (hw : Mw A F n y c) (ht : TXm A F tc) (hp : p < n) (H : ∀ A' F', Ms A F A' F' → g (wrtB tc c n y p x) (HP A' L F')) : xm_Call K sX9_worthWith 9 [.ref 44, .int (Int32.ofNat p), .int x] (HP A L F) (xm_pi g) := by
  have hn8 := hw.1.2.1
  refine eX9_worthWith (K := 7) hK ⟨_, rfl⟩ ⟨_, rfl, _, ln_66 (by omega), _, rfl, _, sn_66 (by omega), ?_⟩
  refine m_worthBy (tc := tc) (by omega) (mw_habit (x := x) hw hp) (ht.to (Ag.up (S := [66]) Ag.rf (by simp)) (by simp) rfl) hp (fun A1 F1 s1 => ⟨_, rfl, _, sn_66 (by omega), xm_pi_i ?_⟩)
  have e66 : A1 66 = upd (A 66) p x := by rw [s1.1 66 (by simp), u_eq]
  have eA : va_up A1 66 (upd (A1 66) p (A 66 p)) = va_up A1 66 (A 66) := by rw [e66, upd_upd, upd_same]
  rw [eA]
  refine H _ F1 ⟨fun k hk => ?_, s1.2.1, s1.2.2⟩
  by_cases h66 : k = 66
  · subst h66; rw [u_eq]
  · rw [u_ne h66, s1.1 k hk, u_ne h66]
theorem m_bestHabit (hK : 8 < K) (hw : Mw A F n y c) (ht : TXm A F tc) (hp : p < n) (H : ∀ A' F', Ms A F A' F' → g (Int32.ofNat (bst (wrtH tc c n y p) 3)) (HP A' L F')) : xm_Call K sX9_bestHabit 9 [.ref 44, .int (Int32.ofNat p)] (HP A L F) (xm_pi g) := by
  refine eX9_bestHabit (K := 8) hK ⟨_, rfl⟩ ?_
  refine xm_for (n := 3) (Q := fun m h => xm_L 8 sX9_bestHabit kX9_bestHabit 4 [some (.ref 44), some (.int (Int32.ofNat p)), some (.int (Int32.ofNat (bst (wrtH tc c n y p) m))), some (.int (Int32.ofNat (m + 1)))] [] h (xm_pi g)) (fun _ h => ∃ A' F', h = HP A' L F' ∧ Ms A F A' F') ?_ ?_ 0 _ (Nat.zero_le _) ⟨A, F, rfl, Ms.rf⟩
  · rintro m h hm ⟨A', F', rfl, s2⟩ ih
    refine xX9_bestHabit_4 ?_
    rw [if_pos (show Int32.ofNat (m + 1) < (4 : Int32) from (n_lt (q := 4) (by omega) (by omega)).mpr (by omega))]
    refine m_worthWith (by omega) (s2.mw hw) (ht.to s2.1 (by simp) (s2.2.2 30 (by omega))) hp (fun A2 F2 s3 => ?_)
    have s23 := s2.tr s3
    refine m_worthWith (by omega) (s23.mw hw) (ht.to s23.1 (by simp) (s23.2.2 30 (by omega))) hp (fun A3 F3 s4 => ?_)
    have hi := ih _ ⟨A3, F3, rfl, s23.tr s4⟩
    rw [n_succ]
    show (if wrtH tc c n y p (bst (wrtH tc c n y p) m) < wrtH tc c n y p (m + 1) then _ else _)
    have hb : bst (wrtH tc c n y p) (m + 1) = if wrtH tc c n y p (bst (wrtH tc c n y p) m) < wrtH tc c n y p (m + 1) then m + 1 else bst (wrtH tc c n y p) m := rfl
    rw [hb] at hi
    split
    · next hc => rw [if_pos hc] at hi; exact hi
    · next hc => rw [if_neg hc] at hi; exact hi
  · rintro h ⟨A', F', rfl, s2⟩
    refine xX9_bestHabit_4 ?_
    rw [if_neg (by decide)]
    exact xm_pi_i (H A' F' s2)
end MDB
