section TRM
variable {A : Nat → Nat → Int32} {L : Nat → Nat → Int64} {F : Nat → Nat → Int32} {g : Int32 → xm_H → Prop} {gv : xm_H → Prop} {w n p k j y e m K : Nat} {x v z : Int32} {h : xm_H} {tc : (Nat → Int32) → Int32} {c : Nat → Int32}
theorem mw_heard (hw : Mw A F n y c) (hp : p < n) (hx : x = 0 ∨ x = 1) : Mw (va_up A 67 (upd (A 67) p x)) F n y (upd c (40 + p) x) := by
  obtain ⟨⟨a1, a2, a3, a4, a5, a6, a7⟩, a8, a9⟩ := hw
  refine ⟨⟨a1, a2, a3, a4, by rw [p_ne (by omega)]; exact a5, by rw [p_ne (by omega)]; exact a6, by rw [u_ne (by omega), p_ne (by omega)]; exact a7⟩, fun q hq => ?_, fun q hq => ?_⟩
  · obtain ⟨b0, b1, b2, b3, b4, b5, b6⟩ := a8 q hq
    rw [u_ne (by omega), u_ne (by omega), u_ne (by omega), u_ne (by omega), u_ne (by omega), u_eq, u_ne (by omega)]
    refine ⟨by rw [p_ne (by omega)]; exact b0, by rw [p_ne (by omega)]; exact b1, by rw [p_ne (by omega)]; exact b2, by rw [p_ne (by omega)]; exact b3, by rw [p_ne (by omega)]; exact b4, ?_, by rw [p_ne (by omega)]; exact b6⟩
    by_cases hqp : q = p
    · subst hqp; rw [p_eq, p_eq]
    · rw [p_ne hqp, p_ne (by omega)]; exact b5
  · by_cases hqp : q = p
    · subst hqp; rw [p_eq]; exact hx
    · rw [p_ne (by omega)]; exact a9 q hq
def BestC (tc : (Nat → Int32) → Int32) (c : Nat → Int32) (n y p : Nat) (L : Nat → Nat → Int64) (l : Nat) : Prop := ∀ (K e : Nat) (b : Bool) (A F : Nat → Nat → Int32) (g : Int32 → xm_H → Prop), 6 + 2 * l < K → e < 2 ^ n → Mw A F n y (hE c e n) → TXm A F tc → (∀ A' F', Ms A F A' F' → g (shB (fun e => sSh tc c n y e p) n l e b) (HP A' L F')) → xm_Call K sX9_bestOf 9 [.ref 44, .int (Int32.ofNat p), .int (Int32.ofNat l), .int (bI b)] (HP A L F) (xm_pi g)
theorem m_byPick {l q : Nat} (hB : BestC tc c n y p L l) (hl : l ≤ 3) (hK : 7 + 2 * l < K) (b : Bool) (he : e < 2 ^ n) (hq : q < n) (hw : Mw A F n y (hE c e n)) (ht : TXm A F tc) (H : ∀ A' F', Ms A F A' F' → g (shB (fun e => sSh tc c n y e p) n l (e ^^^ 2 ^ q) (!b)) (HP A' L F')) : xm_Call K sX9_byPick 9 [.ref 44, .int (Int32.ofNat p), .int (Int32.ofNat q), .int (Int32.ofNat (l + 1)), .int (bI b)] (HP A L F) (xm_pi g) := by
  have hn8 := hw.1.2.1
  have e67 : A 67 q = hE c e n (40 + q) := (hw.2.1 q (by omega)).2.2.2.2.2.1
  have h01 : A 67 q = 0 ∨ A 67 q = 1 := by rw [e67]; exact hw.2.2 q hq
  have h11 : (1 - A 67 q = 0 ∨ 1 - A 67 q = 1) ∧ 1 - (1 - A 67 q) = A 67 q := by rcases h01 with h | h <;> rw [h] <;> decide
  have w1 := mw_heard hw hq h11.1
  have hw2 : upd (hE c e n) (40 + q) (1 - A 67 q) = hE c (e ^^^ 2 ^ q) n := by rw [e67]; exact hE_tog hq
  rw [hw2] at w1
  refine eX9_byPick (K := 7 + 2 * l) hK ⟨_, rfl⟩ ⟨_, rfl, _, rfl, _, ln_67 (by omega), _, sn_67 (by omega), ?_⟩
  have fin : ∀ A1 F1, Ms (va_up A 67 (upd (A 67) q (1 - A 67 q))) F A1 F1 → ∃ q7, xm_fld (HP A1 L F1) 44 9 32 = some (.ref q7) ∧ ∃ q8, xm_fld (HP A1 L F1) 44 9 32 = some (.ref q8) ∧ ∃ e9, xm_ld xm_st (HP A1 L F1) 0 q8 (Int32.ofNat q) = some e9 ∧ ∃ h10, xm_sto (HP A1 L F1) 0 q7 (Int32.ofNat q) ((1 : Int32) - e9) = some h10 ∧ xm_pi g (some (.int (shB (fun e => sSh tc c n y e p) n l (e ^^^ 2 ^ q) (!b)))) h10 := by
    intro A1 F1 s1
    refine ⟨_, rfl, _, rfl, _, ln_67 (by omega), _, sn_67 (by omega), xm_pi_i ?_⟩
    have e1 : A1 67 = upd (A 67) q (1 - A 67 q) := by rw [s1.1 67 (by simp), u_eq]
    rw [e1, p_eq, h11.2, upd_upd, upd_same]
    refine H _ F1 ⟨fun k hk => ?_, s1.2.1, s1.2.2⟩
    by_cases h67 : k = 67
    · subst h67; rw [u_eq]
    · rw [u_ne h67, s1.1 k hk, u_ne h67]
  have ht1 : TXm (va_up A 67 (upd (A 67) q (1 - A 67 q))) F tc := ht.to (Ag.up (S := [67]) Ag.rf (by simp)) (by simp) rfl
  rw [n_pred]
  cases b with
  | false =>
    rw [if_pos (show bI false = 0 from rfl)]
    exact hB (7 + 2 * l) (e ^^^ 2 ^ q) true _ F _ (by omega) (xor_lt hq he) w1 ht1 fin
  | true =>
    rw [if_neg (show ¬ bI true = 0 by decide)]
    exact hB (7 + 2 * l) (e ^^^ 2 ^ q) false _ F _ (by omega) (xor_lt hq he) w1 ht1 fin
theorem m_bestOf (hn8 : n ≤ 8) (hp : p < n) : ∀ l, l ≤ 3 → BestC tc c n y p L l
  | 0, _ => fun K e b A F g hK he hw ht H => by
    refine eX9_bestOf (K := 6) hK ⟨_, rfl⟩ ?_
    rw [if_pos (show Int32.ofNat 0 = 0 from rfl)]
    refine m_shareNow (by omega) hw ht hp (fun A1 F1 s1 => xm_pi_i ?_)
    rw [hE_ears he, hE_sSh hn8]
    exact H A1 F1 s1
  | l + 1, hl => fun K e b A F g hK he hw ht H => by
    have ih := m_bestOf hn8 hp l (by omega)
    have loop : ∀ A2 F2, Ms A F A2 F2 → xm_L (6 + 2 * (l + 1)) sX9_bestOf kX9_bestOf 20 [some (.ref 44), some (.int (Int32.ofNat p)), some (.int (Int32.ofNat (l + 1))), some (.int (bI b)), some (.int (shB (fun e => sSh tc c n y e p) n l e (!b))), some (.int (0 : Int32)), none] [] (HP A2 L F2) (xm_pi g) := by
      intro A2 F2 s2
      refine xm_for (n := n) (Q := fun m h => xm_L (6 + 2 * (l + 1)) sX9_bestOf kX9_bestOf 20 [some (.ref 44), some (.int (Int32.ofNat p)), some (.int (Int32.ofNat (l + 1))), some (.int (bI b)), some (.int (fldB (fun m => shB (fun e => sSh tc c n y e p) n l (e ^^^ 2 ^ m) (!b)) (shB (fun e => sSh tc c n y e p) n l e (!b)) b m)), some (.int (Int32.ofNat m)), none] [] h (xm_pi g)) (fun _ h => ∃ A' F', h = HP A' L F' ∧ Ms A F A' F') ?_ ?_ 0 _ (Nat.zero_le _) ⟨A2, F2, rfl, s2⟩
      · rintro m h hm ⟨A3, F3, rfl, s3⟩ ih2
        refine xX9_bestOf_20 ⟨_, rfl, ?_⟩
        rw [(s3.mw hw).1.1, if_pos ((n_lt (by omega) (by omega)).mpr hm)]
        refine m_byPick ih (by omega) (by omega) b he hm (s3.mw hw) (ht.to s3.1 (by simp) (s3.2.2 30 (by omega))) (fun A4 F4 s4 => ?_)
        have hi := ih2 _ ⟨A4, F4, rfl, s3.tr s4⟩
        have e1 : ∀ b, fldB (fun m => shB (fun e => sSh tc c n y e p) n l (e ^^^ 2 ^ m) (!b)) (shB (fun e => sSh tc c n y e p) n l e (!b)) b (m + 1) = if b = true then (if fldB (fun m => shB (fun e => sSh tc c n y e p) n l (e ^^^ 2 ^ m) (!b)) (shB (fun e => sSh tc c n y e p) n l e (!b)) b m < shB (fun e => sSh tc c n y e p) n l (e ^^^ 2 ^ m) (!b) then shB (fun e => sSh tc c n y e p) n l (e ^^^ 2 ^ m) (!b) else fldB (fun m => shB (fun e => sSh tc c n y e p) n l (e ^^^ 2 ^ m) (!b)) (shB (fun e => sSh tc c n y e p) n l e (!b)) b m) else (if shB (fun e => sSh tc c n y e p) n l (e ^^^ 2 ^ m) (!b) < fldB (fun m => shB (fun e => sSh tc c n y e p) n l (e ^^^ 2 ^ m) (!b)) (shB (fun e => sSh tc c n y e p) n l e (!b)) b m then shB (fun e => sSh tc c n y e p) n l (e ^^^ 2 ^ m) (!b) else fldB (fun m => shB (fun e => sSh tc c n y e p) n l (e ^^^ 2 ^ m) (!b)) (shB (fun e => sSh tc c n y e p) n l e (!b)) b m) := fun b => rfl
        rw [e1 b] at hi
        rw [n_succ]
        cases b with
        | false =>
          rw [if_pos (show bI false = 0 from rfl)]
          rw [if_neg (by decide)] at hi
          split
          · next hc => rw [if_pos hc] at hi; exact hi
          · next hc => rw [if_neg hc] at hi; exact hi
        | true =>
          rw [if_neg (show ¬ bI true = 0 by decide)]
          rw [if_pos rfl] at hi
          split
          · next hc => rw [if_pos hc] at hi; exact hi
          · next hc => rw [if_neg hc] at hi; exact hi
      · rintro h ⟨A3, F3, rfl, s3⟩
        refine xX9_bestOf_20 ⟨_, rfl, ?_⟩
        rw [(s3.mw hw).1.1, if_neg (n_ge (by omega) (by omega) (Nat.le_refl _))]
        exact xm_pi_i (H A3 F3 s3)
    refine eX9_bestOf (K := 6 + 2 * (l + 1)) hK ⟨_, rfl⟩ ?_
    rw [if_neg (show ¬ Int32.ofNat (l + 1) = 0 from fun q => absurd ((n_eq (q := 0) (by omega) (by omega)).mp q) (by omega)), n_pred]
    cases b with
    | false =>
      rw [if_pos (show bI false = 0 from rfl)]
      exact ih (6 + 2 * (l + 1)) e true A F _ (by omega) he hw ht (fun A4 F4 s4 => loop A4 F4 s4)
    | true =>
      rw [if_neg (show ¬ bI true = 0 by decide)]
      exact ih (6 + 2 * (l + 1)) e false A F _ (by omega) he hw ht (fun A4 F4 s4 => loop A4 F4 s4)
theorem r_byTurns (hK : 13 < K) (hM : ModOk A F tc n y c) {x1 x2 x3 : Int32} (H : okB n x1 x2 x3 → ∀ p l, p < n → l < 3 → x1 = Int32.ofNat p → x2 = Int32.ofNat (l + 1) → ∀ A' F', Mq A F A' F' n → g (trS tc c n y p l x3) (HP A' L F')) (H2 : ¬ okB n x1 x2 x3 → g (-1) (HP A L F)) : xm_Call K sX9_byTurns 9 [.ref 44, .int x1, .int x2, .int x3] (HP A L F) (xm_pi g) := by
  have hn8 := hM.1.1.2.1
  have hlt : earsOf c n < 2 ^ n := bitsN_lt _ n
  refine eX9_byTurns (K := 13) hK ⟨_, rfl⟩ (m_isOne (n := n) (by omega) hM.1.1.1 hn8 (fun p hp he => ?_) (fun q => ?_))
  · rw [if_neg (by decide)]
    refine m_in2 (by omega) (fun a1 a2 => ?_) (fun q => ?_)
    · rw [if_neg (by decide)]
      obtain ⟨l, hl, hx⟩ := n_of3 a1 a2
      refine m_in (by omega) ?_
      by_cases h3 : x3 = 0 ∨ x3 = 1
      · rw [if_neg (fun q => (i_01.mp q) h3)]
        have hh := H ⟨⟨by rw [he]; exact xs_nn (by omega), by rw [he]; exact (n_lt (by omega) (by omega)).mpr hp⟩, a1, a2, h3⟩ p l hp hl he hx
        unfold trS at hh
        rw [he, hx]
        refine m_layNow (by omega) hM.1 (fun A1 F1 q1 _ w1 => ?_)
        have hself := hE_self (c := c) (n := n) hM.1.2.2.2.1
        have w1' : Mw A1 F1 n y (hE c (earsOf c n) n) := by rw [hself]; exact w1
        have tt : ∀ {B G}, Ms A1 F1 B G → TXm B G tc := fun s => (q1.ok hM).2.to s.1 (by simp) (s.2.2 30 (by omega))
        refine m_bestOf (tc := tc) (c := c) (y := y) hn8 hp (l + 1) (by omega) 13 (earsOf c n) true A1 F1 _ (by omega) hlt w1' (tt Ms.rf) (fun A2 F2 s2 => ?_)
        have e0 : shB (fun e => sSh tc c n y e p) n (l + 1) (earsOf c n) true = fldB (trT tc c n y p l) (tr0 tc c n y p l) true n := rfl
        rw [e0]
        by_cases h0 : x3 = 0
        · simp only [if_pos h0] at hh
          rw [if_pos h0]
          exact xm_pi_i (hh A2 F2 (q1.tr (s2.mq q1.2.2.2)))
        · simp only [if_neg h0] at hh
          rw [if_neg h0, n_pred]
          refine m_bestOf (tc := tc) (c := c) (y := y) hn8 hp l (by omega) 13 (earsOf c n) false A2 F2 _ (by omega) hlt (s2.mw w1') (tt s2) (fun A3 F3 s3 => ?_)
          have s13 := s2.tr s3
          have e1 : shB (fun e => sSh tc c n y e p) n l (earsOf c n) false = tr0 tc c n y p l := rfl
          rw [e1]
          have pk := pkB_inv (trT tc c n y p l) (tr0 tc c n y p l) n
          by_cases hc : tr0 tc c n y p l = fldB (trT tc c n y p l) (tr0 tc c n y p l) true n
          · rw [if_pos hc]
            rcases pk with ⟨k1, k2⟩ | ⟨k1, k2, k3, k4⟩
            · have h5 := hh A3 F3 (q1.tr (s13.mq q1.2.2.2))
              rw [k1] at h5
              exact xm_pi_i h5
            · rw [← hc, Int32.lt_iff_toInt_lt] at k3; omega
          · rw [if_neg hc]
            rcases pk with ⟨k1, k2⟩ | ⟨k1, k2, k3, k4⟩
            · exact absurd k2.symm hc
            · generalize hpk : pkB (trT tc c n y p l) (tr0 tc c n y p l) n = pk at *
              have key := xm_for (n := pk) (Q := fun m h => xm_L 13 sX9_byTurns kX9_byTurns 41 [some (.ref 44), some (.int (Int32.ofNat p)), some (.int (Int32.ofNat (l + 1))), none, some (.int (fldB (trT tc c n y p l) (tr0 tc c n y p l) true n)), some (.int (Int32.ofNat m))] [] h (xm_pi g)) (fun _ h => ∃ A' F', h = HP A' L F' ∧ Ms A1 F1 A' F') ?_ ?_ 0 _ (Nat.zero_le _) ⟨A3, F3, rfl, s13⟩
              · exact key
              · rintro m h hm ⟨A4, F4, rfl, s4⟩ ih
                refine xX9_byTurns_41 ⟨_, rfl, ?_⟩
                rw [(s4.mw w1').1.1, if_pos ((n_lt (by omega) (by omega)).mpr (by omega))]
                refine m_byPick (q := m) (m_bestOf (tc := tc) (c := c) (y := y) (L := L) hn8 hp l (by omega)) (by omega) (by omega) true hlt (by omega) (s4.mw w1') (tt s4) (fun A5 F5 s5 => ?_)
                have hne : ¬ trT tc c n y p l m = fldB (trT tc c n y p l) (tr0 tc c n y p l) true n := fun q => by
                  have := k4 m hm
                  rw [q, Int32.lt_iff_toInt_lt] at this
                  omega
                show (if trT tc c n y p l m = _ then _ else _)
                rw [if_neg hne, n_succ]
                exact ih _ ⟨A5, F5, rfl, s4.tr s5⟩
              · rintro h ⟨A4, F4, rfl, s4⟩
                refine xX9_byTurns_41 ⟨_, rfl, ?_⟩
                rw [(s4.mw w1').1.1, if_pos ((n_lt (by omega) (by omega)).mpr (by omega))]
                refine m_byPick (q := pk) (m_bestOf (tc := tc) (c := c) (y := y) (L := L) hn8 hp l (by omega)) (by omega) (by omega) true hlt (by omega) (s4.mw w1') (tt s4) (fun A5 F5 s5 => ?_)
                show (if trT tc c n y p l pk = _ then _ else _)
                rw [if_pos k2]
                exact xm_pi_i (hh A5 F5 (q1.tr ((s4.tr s5).mq q1.2.2.2)))
      · rw [if_pos (i_01.mpr h3)]
        exact xm_pi_i (H2 (fun ok => h3 ok.2.2.2))
    · rw [if_pos rfl]
      exact xm_pi_i (H2 (fun ok => q.elim ok.2.1 ok.2.2.1))
  · rw [if_pos rfl]
    exact xm_pi_i (H2 (fun ok => q.elim ok.1.1 (fun z => z ok.1.2)))
end TRM
