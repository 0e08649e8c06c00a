section DDF
variable {A : Nat → Nat → Int32} {L : Nat → Nat → Int64} {F : Nat → Nat → Int32} {gv : xm_H → Prop} {w n p k j y e m r o a d u K nb : Nat} {x x1 x2 x3 v z : Int32} {h : xm_H} {tc : (Nat → Int32) → Int32} {c : Nat → Int32}
def okG (n : Nat) (x1 x2 x3 : Int32) : Prop := (¬ x1 < 0 ∧ x1 < Int32.ofNat n) ∧ (¬ x2 < 0 ∧ x2 < Int32.ofNat n) ∧ ¬ x1 = x2 ∧ ¬ x3 < 1 ∧ ¬ 9999 < x3
theorem in_n (hn : n ≤ 8) (hp : p < n) (he : x = Int32.ofNat p) : ¬ x < 0 ∧ x < Int32.ofNat n := by
  rw [he]; exact ⟨xs_nn (by omega), (n_lt (by omega) (by omega)).mpr hp⟩
theorem q_gives {g : Int32 → xm_H → Prop} (hK : 5 < K) (c1 : F 1 1 = Int32.ofNat n) (c3 : n ≤ 8) (H : okG n x1 x2 x3 → ∀ p q, p < n → q < n → p ≠ q → x1 = Int32.ofNat p → x2 = Int32.ofNat q → ((A 2 (8 + p) - x3 < 0 ∨ 9999 < A 2 (8 + q) + x3) → g (-5) (HP A L F)) ∧ (¬ (A 2 (8 + p) - x3 < 0 ∨ 9999 < A 2 (8 + q) + x3) → g (A 2 (8 + p) - x3) (HP (va_up (va_up A 2 (upd (upd (A 2) (8 + p) (A 2 (8 + p) - x3)) (8 + q) (A 2 (8 + q) + x3))) 20 (upd (A 20) 5 (A 20 5 + x3))) L F))) (H2 : ¬ okG n x1 x2 x3 → g (-1) (HP A L F)) : xm_Call K sX8_gives 8 [.ref 0, .int x1, .int x2, .int x3] (HP A L F) (xm_pi g) := by
  have hw : isW 1 := Or.inl rfl
  refine eX8_gives (K := 5) hK ⟨_, rfl⟩ ⟨_, rfl, c_has (n := n) (by omega) hw c1 c3 (fun p hp he => ?_) (fun hb => ?_)⟩
  · rw [if_neg (by decide)]
    refine ⟨_, rfl, c_has (n := n) (by omega) hw c1 c3 (fun q hq hf => ?_) (fun hb => ?_)⟩
    · rw [if_neg (by decide)]
      by_cases h12 : x1 = x2
      · rw [if_pos h12]; exact xm_pi_i (H2 (fun ok => ok.2.2.1 h12))
      · rw [if_neg h12]
        by_cases h1 : x3 < 1
        · rw [if_pos h1]; exact xm_pi_i (H2 (fun ok => ok.2.2.2.1 h1))
        · rw [if_neg h1]
          refine ⟨_, st_m1, ?_⟩
          by_cases h9 : 9999 < x3
          · rw [if_pos h9]; exact xm_pi_i (H2 (fun ok => ok.2.2.2.2 h9))
          · rw [if_neg h9]
            have hpq : p ≠ q := fun z => h12 (by rw [he, hf, z])
            have hh := H ⟨in_n c3 hp he, in_n c3 hq hf, h12, h1, h9⟩ p q hp hq hpq he hf
            rw [he, hf]
            refine ⟨_, rfl, c_get (k := 1) (by omega) hw c1 c3 hp (by omega) ⟨_, rfl, c_get (k := 1) (by omega) hw c1 c3 hq (by omega) ?_⟩⟩
            show (if A 2 (8 + p) - x3 < 0 then _ else _)
            by_cases k1 : A 2 (8 + p) - x3 < 0
            · rw [if_pos k1]; exact xm_pi_i (hh.1 (Or.inl k1))
            · rw [if_neg k1]
              refine ⟨_, st_m1, ?_⟩
              show (if 9999 < A 2 (8 + q) + x3 then _ else _)
              by_cases k2 : 9999 < A 2 (8 + q) + x3
              · rw [if_pos k2]; exact xm_pi_i (hh.1 (Or.inr k2))
              · rw [if_neg k2]
                refine ⟨_, rfl, c_set (k := 1) (by omega) hw c1 c3 hp (by omega) ⟨_, rfl, c_set (k := 1) (by omega) hw c1 c3 hq (by omega) ⟨_, rfl, _, ln_20 (j := 5) (by omega), _, sn_20 (j := 5) (by omega), xm_pi_i ?_⟩⟩⟩
                have h3 := hh.2 (fun z => z.elim k1 k2)
                rw [show (1 : Nat) + 1 = 2 from rfl, u_eq, up2]
                exact h3
    · rw [if_pos rfl]; exact xm_pi_i (H2 (fun ok => hb.elim ok.2.1.1 (fun z => z ok.2.1.2)))
  · rw [if_pos rfl]; exact xm_pi_i (H2 (fun ok => hb.elim ok.1.1 (fun z => z ok.1.2)))
theorem r_gives {g : Int32 → xm_H → Prop} (hK : 5 < K) (c1 : F 44 1 = Int32.ofNat n) (c3 : n ≤ 8) (H : okG n x1 x2 x3 → ∀ p q, p < n → q < n → p ≠ q → x1 = Int32.ofNat p → x2 = Int32.ofNat q → ((A 46 p < x3 ∨ 9999 < A 46 q + x3) → g (-5) (HP A L F)) ∧ (¬ (A 46 p < x3 ∨ 9999 < A 46 q + x3) → g (A 46 p - x3) (HP (va_up (va_up A 46 (upd (upd (A 46) p (A 46 p - x3)) q (A 46 q + x3))) 72 (upd (A 72) 5 (A 72 5 + x3))) L F))) (H2 : ¬ okG n x1 x2 x3 → g (-1) (HP A L F)) : xm_Call K sX9_gives 9 [.ref 44, .int x1, .int x2, .int x3] (HP A L F) (xm_pi g) := by
  refine eX9_gives (K := 5) hK ⟨_, rfl⟩ (m_isOne (n := n) (by omega) c1 c3 (fun p hp he => ?_) (fun hb => ?_))
  · rw [if_neg (by decide)]
    refine m_isOne (n := n) (by omega) c1 c3 (fun q hq hf => ?_) (fun hb => ?_)
    · rw [if_neg (by decide)]
      by_cases h12 : x1 = x2
      · rw [if_pos h12]; exact xm_pi_i (H2 (fun ok => ok.2.2.1 h12))
      · rw [if_neg h12]
        refine m_in2 (by omega) (fun h1 h9 => ?_) (fun hb => ?_)
        · rw [if_neg (by decide)]
          have hpq : p ≠ q := fun z => h12 (by rw [he, hf, z])
          have hh := H ⟨in_n c3 hp he, in_n c3 hq hf, h12, h1, h9⟩ p q hp hq hpq he hf
          rw [he, hf]
          refine ⟨_, rfl, _, ln_46 (by omega), ?_⟩
          by_cases k1 : A 46 p < x3
          · rw [if_pos k1]; exact xm_pi_i (hh.1 (Or.inl k1))
          · rw [if_neg k1]
            refine ⟨_, rfl, _, ln_46 (by omega), ?_⟩
            by_cases k2 : 9999 < A 46 q + x3
            · rw [if_pos k2]; exact xm_pi_i (hh.1 (Or.inr k2))
            · rw [if_neg k2]
              have h3 := hh.2 (fun z => z.elim k1 k2)
              refine ⟨_, rfl, _, ln_46 (by omega), _, sn_46 (by omega), _, rfl, _, ln_46 (by omega), _, sn_46 (by omega), _, rfl, _, ln_72 (j := 5) (by omega), _, sn_72 (j := 5) (by omega), _, rfl, _, ln_46 (by omega), xm_pi_i ?_⟩
              rw [u_eq, up2, p_ne (Ne.symm hpq)]
              have e1 : va_up (va_up A 46 (upd (upd (A 46) p (A 46 p - x3)) q (A 46 q + x3))) 72 (upd (va_up A 46 (upd (upd (A 46) p (A 46 p - x3)) q (A 46 q + x3)) 72) 5 (va_up A 46 (upd (upd (A 46) p (A 46 p - x3)) q (A 46 q + x3)) 72 5 + x3)) 46 p = A 46 p - x3 := by
                rw [u_ne (by omega), u_eq, p_ne hpq, p_eq]
              rw [e1]
              exact h3
        · rw [if_pos rfl]; exact xm_pi_i (H2 (fun ok => hb.elim ok.2.2.2.1 ok.2.2.2.2))
    · rw [if_pos rfl]; exact xm_pi_i (H2 (fun ok => hb.elim ok.2.1.1 (fun z => z ok.2.1.2)))
  · rw [if_pos rfl]; exact xm_pi_i (H2 (fun ok => hb.elim ok.1.1 (fun z => z ok.1.2)))
theorem st_gives {g : Int32 → Int32 → xm_H → Prop} (hK : 40 ≤ K) (hI : INV A L F n nb tc) (H : Fin2 g) : xm_Call K sX8_gives 8 [.ref 0, .int x1, .int x2, .int x3] (HP A L F) (xm_pi fun c h => xm_Call K sX9_gives 9 [.ref 44, .int x1, .int x2, .int x3] h (xm_pi fun c' h' => g c c' h')) := by
  have hI0 := hI
  obtain ⟨⟨hB, -, -⟩, ⟨hC, hL, hM⟩, -⟩ := hI0
  obtain ⟨⟨c1, c2, c3⟩, -, b5, -, b7⟩ := hB
  have t0 : (0 : Int32).toInt = 0 := rfl
  have t1 : (1 : Int32).toInt = 1 := rfl
  have t9 : (9999 : Int32).toInt = 9999 := rfl
  refine q_gives (by omega) c1 c3 (fun ok p q hp hq hpq he hf => ?_) (fun no => ?_)
  · have e46 : ∀ i, i < n → A 46 i = A 2 (8 + i) := fun i hi => b7 1 i (Or.inl ⟨by omega, by omega⟩)
    have bp := mayV_bd (o := 1) (b := 9999) (by omega) rfl (b5 1 p (Or.inl ⟨by omega, hp⟩))
    have bq := mayV_bd (o := 1) (b := 9999) (by omega) rfl (b5 1 q (Or.inl ⟨by omega, hq⟩))
    have bp' : bd (A 2 (8 + p)) 9999 := bp
    have bq' : bd (A 2 (8 + q)) 9999 := bq
    have ok0 := ok
    obtain ⟨-, -, -, k1, k9⟩ := ok
    have k1' := k1
    have k9' := k9
    rw [Int32.lt_iff_toInt_lt] at k1' k9'
    unfold bd at bp' bq'
    have es := i_sub (a := A 2 (8 + p)) (b := x3) (by omega) (by omega)
    have ea := i_add (a := A 2 (8 + q)) (b := x3) (by omega) (by omega)
    have lss : A 2 (8 + p) - x3 < 0 ↔ A 2 (8 + p) < x3 := by rw [Int32.lt_iff_toInt_lt, Int32.lt_iff_toInt_lt]; omega
    have ok := ok0
    refine ⟨fun bad => ?_, fun good => ?_⟩
    · refine r_gives (by omega) c2 c3 (fun _ p' q' hp' hq' _ he' hf' => ?_) (fun q => absurd ok q)
      have e1 := same (by omega) (by omega) he he'
      have e2 := same (by omega) (by omega) hf hf'
      subst e1; subst e2
      rw [e46 p hp, e46 q hq]
      rw [lss] at bad
      exact ⟨fun _ => H _ _ _ _ _ _ _ hI, fun z => absurd bad z⟩
    · refine r_gives (by omega) c2 c3 (fun _ p' q' hp' hq' _ he' hf' => ?_) (fun q => absurd ok q)
      have e1 := same (by omega) (by omega) he he'
      have e2 := same (by omega) (by omega) hf hf'
      subst e1; subst e2
      rw [show va_up (va_up A 2 (upd (upd (A 2) (8 + p) (A 2 (8 + p) - x3)) (8 + q) (A 2 (8 + q) + x3))) 20 (upd (A 20) 5 (A 20 5 + x3)) 46 = A 46 from rfl, show va_up (va_up A 2 (upd (upd (A 2) (8 + p) (A 2 (8 + p) - x3)) (8 + q) (A 2 (8 + q) + x3))) 20 (upd (A 20) 5 (A 20 5 + x3)) 72 = A 72 from rfl, e46 p hp, e46 q hq]
      refine ⟨fun z => absurd (by rw [lss]; exact z) good, fun _ => ?_⟩
      have v1 : mayV 1 (A 2 (8 + p) - x3) := by
        refine ⟨?_, ?_⟩
        · show ¬ A 2 (8 + p) - x3 < 0
          exact fun z => good (Or.inl z)
        · show ¬ 9999 < A 2 (8 + p) - x3
          rw [Int32.lt_iff_toInt_lt]; omega
      have v2 : mayV 1 (A 2 (8 + q) + x3) := by
        refine ⟨?_, ?_⟩
        · show ¬ A 2 (8 + q) + x3 < 0
          rw [Int32.lt_iff_toInt_lt]; omega
        · show ¬ 9999 < A 2 (8 + q) + x3
          exact fun z => good (Or.inr z)
      have h1 := ((hI.lay1 (o := 1) (a := p) (Or.inl ⟨by omega, hp⟩) v1).lay1 (o := 1) (a := q) (Or.inl ⟨by omega, hq⟩) v2).led1' (j := 5) (v := A 20 5 + x3) (v' := A 72 5 + x3) (by rw [hL 5 (by omega)])
      have hh := H (A 2 (8 + p) - x3) _ _ _ _ _ _ h1
      refine cast (congrArg (fun B => g (A 2 (8 + p) - x3) (A 2 (8 + p) - x3) (HP B L F)) ?_) hh
      funext k
      by_cases h72 : k = 72
      · subst h72; rfl
      by_cases h46 : k = 46
      · subst h46; rfl
      by_cases h20 : k = 20
      · subst h20; rfl
      by_cases h2 : k = 2
      · subst h2; rfl
      · have m1 : k ≠ mC 1 := h46
        rw [u_ne h72, u_ne h20, lay2_o h2 m1, lay2_o h2 m1, u_ne h72, u_ne h46, u_ne h20, u_ne h2]
  · exact r_gives (by omega) c2 c3 (fun q => absurd q no) (fun _ => H _ _ _ _ _ _ _ hI)
end DDF
