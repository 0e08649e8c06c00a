section QRB
variable {A : Nat → Nat → Int32} {L : Nat → Nat → Int64} {F : Nat → Nat → Int32} {g : Int32 → xm_H → Prop} {gv : xm_H → Prop} {w n p k j y e K : Nat} {x v z : Int32} {h : xm_H} {tc : (Nat → Int32) → Int32}
def bst (W : Nat → Int32) : Nat → Nat
  | 0 => 0
  | m + 1 => if W (bst W m) < W (m + 1) then m + 1 else bst W m
theorem bst_le (W : Nat → Int32) : ∀ m, bst W m ≤ m
  | 0 => Nat.le_refl _
  | m + 1 => by
    show (if W (bst W m) < W (m + 1) then m + 1 else bst W m) ≤ m + 1
    have := bst_le W m
    split <;> omega
/-- what each habit is worth to p -/
def wrtH (tc : (Nat → Int32) → Int32) (c : Nat → Int32) (n y p : Nat) (q : Nat) : Int32 := wrtB tc c n y p (Int32.ofNat q)
theorem q_best (hK : 8 < K) (hN : NowOk A F tc n y) {x2 : Int32} (H : ∀ p, p < n → x = Int32.ofNat p → ∀ A' F', Sc A F A' F' → (x2 = 0 → g (Int32.ofNat (bst (wrtH tc (A 2) n y p) 3)) (HP A' L F')) ∧ (x2 = 1 → g (wrtH tc (A 2) n y p (bst (wrtH tc (A 2) n y p) 3)) (HP A' L F'))) (H2 : ((x < 0 ∨ ¬ x < Int32.ofNat n) ∨ (¬ x2 = 0 ∧ ¬ x2 = 1)) → g (-2000000000) (HP A L F)) : xm_Call K sX8_best 8 [.ref 0, .int x, .int x2] (HP A L F) (xm_pi g) := by
  have hn8 := hN.1.2.2.1
  have loop : ∀ p, p < n → x = Int32.ofNat p → (x2 = 0 ∨ x2 = 1) → ∀ A1 F1, Sc A F A1 F1 → xm_L 8 sX8_best kX8_best 21 [some (.ref 0), some (.int (Int32.ofNat p)), some (.int x2), some (.int (0 : Int32)), some (.int (wrtB tc (A 2) n y p 0)), some (.int (1 : Int32)), none] [] (HP A1 L F1) (xm_pi g) := by
    intro p hp hx hx2 A1 F1 s1
    refine xm_for (n := 3) (Q := fun m h => xm_L 8 sX8_best kX8_best 21 [some (.ref 0), some (.int (Int32.ofNat p)), some (.int x2), some (.int (Int32.ofNat (bst (wrtH tc (A 2) n y p) m))), some (.int (wrtH tc (A 2) n y p (bst (wrtH tc (A 2) n y p) m))), some (.int (Int32.ofNat (m + 1))), none] [] h (xm_pi g)) (fun _ h => ∃ A' F', h = HP A' L F' ∧ Sc A F A' F') ?_ ?_ 0 _ (Nat.zero_le _) ⟨A1, F1, rfl, s1⟩
    · rintro m h hm ⟨A', F', rfl, s2⟩ ih
      refine xX8_best_21 ?_
      rw [if_pos (show Int32.ofNat (m + 1) < (4 : Int32) from (n_lt (q := 4) (by omega) (by omega)).mpr (by omega))]
      refine c_worthBy (by omega) (s2.now hN) hp (fun A2 F2 s3 => ?_)
      have e2 : A' 2 = A 2 := s2.1 2 (by simp)
      have hi := ih _ ⟨A2, F2, rfl, s2.tr s3⟩
      rw [e2, n_succ]
      show (if _ < wrtH tc (A 2) n y p (m + 1) then _ else _)
      have hb : bst (wrtH tc (A 2) n y p) (m + 1) = if wrtH tc (A 2) n y p (bst (wrtH tc (A 2) n y p) m) < wrtH tc (A 2) n y p (m + 1) then m + 1 else bst (wrtH tc (A 2) n y p) m := rfl
      rw [hb] at hi
      split
      · next hc => rw [if_pos hc] at hi; exact hi
      · next hc => rw [if_neg hc] at hi; exact hi
    · rintro h ⟨A', F', rfl, s2⟩
      refine xX8_best_21 ?_
      rw [if_neg (by decide)]
      by_cases h0 : x2 = 0
      · rw [if_pos h0]; exact xm_pi_i ((H p hp hx A' F' s2).1 h0)
      · rw [if_neg h0]; exact xm_pi_i ((H p hp hx A' F' s2).2 (hx2.resolve_left h0))
  refine eX8_best (K := 8) hK ⟨_, rfl⟩ ⟨_, rfl, c_has (n := n) (by omega) hN.1.1 hN.1.2.1 hn8 (fun p hp he => ?_) (fun q => ?_)⟩
  · rw [if_neg (by decide)]
    by_cases h0 : x2 = 0
    · rw [if_pos h0]
      subst he
      exact c_worthBy (by omega) hN hp (fun A1 F1 s1 => loop p hp rfl (Or.inl h0) A1 F1 s1)
    · rw [if_neg h0]
      by_cases h1 : x2 = 1
      · rw [if_pos h1]
        subst he
        exact c_worthBy (by omega) hN hp (fun A1 F1 s1 => loop p hp rfl (Or.inr h1) A1 F1 s1)
      · rw [if_neg h1]; exact xm_pi_i (H2 (Or.inr ⟨h0, h1⟩))
  · rw [if_pos rfl]; exact xm_pi_i (H2 (Or.inl q))
theorem upd_same (f : Nat → Int32) (k : Nat) : upd f k (f k) = f := by
  funext q
  by_cases h : q = k
  · subst h; rw [p_eq]
  · rw [p_ne h]
theorem wrtB_same (c : Nat → Int32) : wrtB tc c n y p (c (24 + p)) = wrt tc c n y p := by unfold wrtB; rw [upd_same]
/-- nobody would do better by another habit -/
def rstS (tc : (Nat → Int32) → Int32) (c : Nat → Int32) (n y : Nat) : Prop := ∀ p, p < n → ∀ q, q < 4 → ¬ wrt tc c n y p < wrtH tc c n y p q
theorem q_atRest (hK : 8 < K) (hN : NowOk A F tc n y) (H1 : rstS tc (A 2) n y → ∀ A' F', Sc A F A' F' → g 1 (HP A' L F')) (H0 : ¬ rstS tc (A 2) n y → ∀ A' F', Sc A F A' F' → g 0 (HP A' L F')) : xm_Call K sX8_atRest 8 [.ref 0] (HP A L F) (xm_pi g) := by
  have hn8 := hN.1.2.2.1
  refine eX8_atRest (K := 8) hK ⟨_, rfl⟩ ?_
  refine xm_for (n := n) (Q := fun p h => xm_L 8 sX8_atRest kX8_atRest 2 [some (.ref 0), some (.int (Int32.ofNat p)), none, none] [] h (xm_pi g)) (fun p h => ∃ A' F', h = HP A' L F' ∧ Sc A F A' F' ∧ ∀ r, r < p → ∀ q, q < 4 → ¬ wrt tc (A 2) n y r < wrtH tc (A 2) n y r q) ?_ ?_ 0 _ (Nat.zero_le _) ⟨A, F, rfl, Sc.rf hN.2.2.2, fun r hr => absurd hr (by omega)⟩
  · rintro p h hp ⟨A', F', rfl, s1, h1⟩ ih
    have hN1 := s1.now hN
    have e2 : A' 2 = A 2 := s1.1 2 (by simp)
    refine xX8_atRest_2 ⟨_, rfl, _, w_people hN1.1.1, ?_⟩
    rw [hN1.1.2.1, if_pos ((n_lt (by omega) (by omega)).mpr hp)]
    refine ⟨_, rfl, c_get (k := 3) (by omega) hN1.1.1 hN1.1.2.1 hn8 hp (by omega) (c_worthBy (by omega) hN1 hp (fun A1 F1 s2 => ?_))⟩
    have e3 : wrtB tc (A' 2) n y p (A' (1 + 1) (8 * 3 + p)) = wrt tc (A 2) n y p := by
      show wrtB tc (A' 2) n y p (A' 2 (24 + p)) = _
      rw [wrtB_same, e2]
    rw [e3]
    refine xm_for (n := 4) (Q := fun q h => xm_L 8 sX8_atRest kX8_atRest 18 [some (.ref 0), some (.int (Int32.ofNat p)), some (.int (wrt tc (A 2) n y p)), some (.int (Int32.ofNat q))] [] h (xm_pi g)) (fun q h => ∃ A' F', h = HP A' L F' ∧ Sc A F A' F' ∧ ∀ r, r < q → ¬ wrt tc (A 2) n y p < wrtH tc (A 2) n y p r) ?_ ?_ 0 _ (Nat.zero_le _) ⟨A1, F1, rfl, s1.tr s2, fun r hr => absurd hr (by omega)⟩
    · rintro q h hq ⟨A3, F3, rfl, s3, h3⟩ ih2
      refine xX8_atRest_18 ?_
      rw [if_pos (show Int32.ofNat q < (4 : Int32) from (n_lt (q := 4) (by omega) (by omega)).mpr hq)]
      refine c_worthBy (by omega) (s3.now hN) hp (fun A4 F4 s4 => ?_)
      rw [s3.1 2 (by simp)]
      show (if wrt tc (A 2) n y p < wrtH tc (A 2) n y p q then _ else _)
      by_cases hc : wrt tc (A 2) n y p < wrtH tc (A 2) n y p q
      · rw [if_pos hc]
        exact xm_pi_i (H0 (fun hr => hr p hp q hq hc) A4 F4 (s3.tr s4))
      · rw [if_neg hc, n_succ]
        refine ih2 _ ⟨A4, F4, rfl, s3.tr s4, fun r hr => ?_⟩
        by_cases hrq : r = q
        · subst hrq; exact hc
        · exact h3 r (by omega)
    · rintro h ⟨A3, F3, rfl, s3, h3⟩
      refine xX8_atRest_18 ?_
      rw [if_neg (by decide), n_succ]
      refine ih _ ⟨A3, F3, rfl, s3, fun r hr => ?_⟩
      by_cases hrq : r = p
      · subst hrq; exact h3
      · exact h1 r (by omega)
  · rintro h ⟨A', F', rfl, s1, h1⟩
    have hN1 := s1.now hN
    refine xX8_atRest_2 ⟨_, rfl, _, w_people hN1.1.1, ?_⟩
    rw [hN1.1.2.1, if_neg (fun q => absurd ((n_lt (by omega) (by omega)).mp q) (by omega))]
    exact xm_pi_i (H1 h1 A' F' s1)
/-! sets that share -/
def pSum (e : Nat) (s : Nat → Int32) : Nat → Int32
  | 0 => 0
  | m + 1 => if e.testBit m = true then pSum e s m + s m else pSum e s m
def pCnt (e : Nat) : Nat → Nat
  | 0 => 0
  | m + 1 => if e.testBit m = true then pCnt e m + 1 else pCnt e m
theorem pCnt_le (e : Nat) : ∀ m, pCnt e m ≤ m
  | 0 => Nat.le_refl _
  | m + 1 => by
    have := pCnt_le e m
    show (if e.testBit m = true then pCnt e m + 1 else pCnt e m) ≤ m + 1
    split
    · exact Nat.succ_le_succ this
    · omega
theorem pSum_eq {s t : Nat → Int32} : ∀ m, (∀ q, q < m → s q = t q) → pSum e s m = pSum e t m
  | 0, _ => rfl
  | m + 1, h => by
    show (if e.testBit m = true then pSum e s m + s m else pSum e s m) = (if e.testBit m = true then pSum e t m + t m else pSum e t m)
    rw [pSum_eq m (fun q hq => h q (by omega)), h m (by omega)]
/-- what each of the set e pays alike -/
def pldS (e : Nat) (s : Nat → Int32) (n : Nat) : Int32 := if pCnt e n = 0 then 0 else (pSum e s n + Int32.ofNat (pCnt e n) - 1) / Int32.ofNat (pCnt e n)
theorem c_pooled (hK : 0 < K) (hn : F 1 1 = Int32.ofNat n) (hn8 : n ≤ 8) (he : e < 256) (H : g (pldS e (A 12) n) (HP A L F)) : xm_Call K sX8_pooled 8 [.ref 0, .int (Int32.ofNat e)] (HP A L F) (xm_pi g) := by
  refine eX8_pooled (K := 0) hK ⟨_, rfl⟩ ?_
  refine xm_for (n := n) (Q := fun p h => xm_L 0 sX8_pooled kX8_pooled 6 [some (.ref 0), some (.int (Int32.ofNat e)), some (.int (pSum e (A 12) p)), some (.int (Int32.ofNat (pCnt e p))), some (.int (Int32.ofNat p))] [] h (xm_pi g)) (fun _ h => h = HP A L F) ?_ ?_ 0 _ (Nat.zero_le _) rfl
  · rintro p h hp rfl ih
    have hi := ih _ rfl
    refine xX8_pooled_6 ⟨_, rfl, _, rfl, ?_⟩
    rw [hn, if_pos ((n_lt (by omega) (by omega)).mpr hp)]
    have e1 : pSum e (A 12) (p + 1) = if e.testBit p = true then pSum e (A 12) p + A 12 p else pSum e (A 12) p := rfl
    have e2 : pCnt e (p + 1) = if e.testBit p = true then pCnt e p + 1 else pCnt e p := rfl
    rw [e1, e2] at hi
    by_cases hb : e.testBit p = true
    · rw [if_pos ((n_bit e he p (by omega)).mpr hb)]
      simp only [if_pos hb] at hi
      refine ⟨_, rfl, _, rfl, _, ln_12 (by omega), ?_⟩
      rw [n_succ, n_succ]; exact hi
    · rw [if_neg (fun q => hb ((n_bit e he p (by omega)).mp q)), n_succ]
      simp only [if_neg hb] at hi
      exact hi
  · rintro h rfl
    refine xX8_pooled_6 ⟨_, rfl, _, rfl, ?_⟩
    rw [hn, if_neg (fun q => absurd ((n_lt (by omega) (by omega)).mp q) (by omega))]
    have hc := pCnt_le e n
    unfold pldS at H
    by_cases h0 : pCnt e n = 0
    · rw [if_pos h0] at H
      rw [h0, if_pos (show Int32.ofNat 0 = 0 from rfl)]; exact xm_pi_i H
    · rw [if_neg h0] at H
      have hz : ¬ Int32.ofNat (pCnt e n) = 0 := fun q => h0 ((n_eq (q := 0) (by omega) (by omega)).mp q)
      rw [if_neg hz]
      exact ⟨hz, xm_pi_i H⟩
end QRB
