section TRN
variable {A : Nat → Nat → Int32} {L : Nat → Nat → Int64} {F : Nat → Nat → Int32} {g : Int32 → xm_H → Prop} {gv : xm_H → Prop} {w n p k j y e m K : Nat} {x v z : Int32} {h : xm_H} {tc : (Nat → Int32) → Int32} {c : Nat → Int32}
/-! what does not hang on who is heard -/
theorem nSay_eq {f t : Nat → Int32} : ∀ m, (∀ q, q < m → f q = t q) → nSay f m = nSay t m
  | 0, _ => rfl
  | m + 1, h => by show nSay f m + _ = nSay t m + _; rw [nSay_eq m (fun q hq => h q (by omega)), h m (by omega)]
theorem nGo_eq {f t : Nat → Int32} : ∀ m, (∀ q, q < m → f q = t q) → nGo f m = nGo t m
  | 0, _ => rfl
  | m + 1, h => by show nGo f m + _ = nGo t m + _; rw [nGo_eq m (fun q hq => h q (by omega)), h m (by omega)]
theorem cntW_eq {d : Nat → Int32} (hn : n ≤ 8) (hp : p < n) (h : ∀ k, k < 40 ∨ 48 ≤ k → k < 67 → d k = c k) : cntW tc d n y p = cntW tc c n y p := by
  unfold cntW
  have e1 : nSay (hbt d) n = nSay (hbt c) n := nSay_eq n (fun q hq => h (24 + q) (by omega) (by omega))
  have e2 : nGo (hbt d) n = nGo (hbt c) n := nGo_eq n (fun q hq => h (24 + q) (by omega) (by omega))
  have := Nat.mod_lt y (show 0 < 8 by omega)
  rw [e1, e2, h (32 + p) (by omega) (by omega), h p (by omega) (by omega), h (16 + p) (by omega) (by omega), h (24 + p) (by omega) (by omega), h (56 + y % 8) (by omega) (by omega)]
theorem wgt_eq {d : Nat → Int32} (hn : n ≤ 8) (h : ∀ k, k < 40 ∨ 48 ≤ k → k < 67 → d k = c k) : wgt tc d n y = wgt tc c n y := by
  funext q
  unfold wgt
  by_cases hq : q < n
  · rw [cntW_eq hn hq h, h (24 + q) (by omega) (by omega)]
  · rw [if_neg (fun z => hq z.1), if_neg (fun z => hq z.1)]
theorem sSh_eq {d : Nat → Int32} (hn : n ≤ 8) (h : ∀ k, k < 40 ∨ 48 ≤ k → k < 67 → d k = c k) : sSh tc d n y e p = sSh tc c n y e p := by
  have := Nat.mod_lt y (show 0 < 8 by omega)
  unfold sSh whl
  rw [wgt_eq hn h, h (56 + y % 8) (by omega) (by omega), h 65 (by omega) (by omega)]
/-- the world c, if those of the set e are heard -/
def hE (c : Nat → Int32) (e n : Nat) : Nat → Int32 := fun k => if 40 ≤ k ∧ k < 40 + n then (if e.testBit (k - 40) = true then 1 else 0) else c k
theorem hE_off (hk : ¬ (40 ≤ k ∧ k < 40 + n)) : hE c e n k = c k := if_neg hk
theorem hE_on (hp : p < n) : hE c e n (40 + p) = if e.testBit p = true then 1 else 0 := by
  unfold hE
  rw [if_pos ⟨by omega, by omega⟩, show 40 + p - 40 = p by omega]
theorem hE_ears (he : e < 2 ^ n) : earsOf (hE c e n) n = e := by
  refine Nat.eq_of_testBit_eq (fun i => ?_)
  rw [ears_bit]
  by_cases hi : i < n
  · rw [hE_on hi]
    cases hb : e.testBit i <;> simp [hi]
  · rw [Nat.testBit_lt_two_pow (Nat.lt_of_lt_of_le he (Nat.pow_le_pow_right (by omega) (by omega)))]
    exact decide_eq_false (fun q => hi q.1)
theorem hE_self (hh : ∀ p, p < n → c (40 + p) = 0 ∨ c (40 + p) = 1) : hE c (earsOf c n) n = c := by
  funext k
  by_cases hk : 40 ≤ k ∧ k < 40 + n
  · obtain ⟨p, rfl⟩ : ∃ p, k = 40 + p := ⟨k - 40, by omega⟩
    rw [hE_on (by omega), ears_bit]
    rcases hh p (by omega) with h | h
    · rw [h, if_neg (by simp)]
    · rw [h, if_pos (by simp; omega)]
  · exact hE_off hk
theorem hE_sSh (hn : n ≤ 8) {e' : Nat} : sSh tc (hE c e n) n y e' p = sSh tc c n y e' p := sSh_eq hn (fun k h1 _ => hE_off (by omega))
theorem tb_xor {i : Nat} : (e ^^^ 2 ^ p).testBit i = (if i = p then !(e.testBit i) else e.testBit i) := by
  rw [Nat.testBit_xor, Nat.testBit_two_pow]
  by_cases h : p = i
  · subst h; simp
  · simp [h, Ne.symm h, show ¬ i = p from fun q => h q.symm]
theorem hE_tog (hp : p < n) : upd (hE c e n) (40 + p) (1 - hE c e n (40 + p)) = hE c (e ^^^ 2 ^ p) n := by
  funext k
  by_cases hk : 40 ≤ k ∧ k < 40 + n
  · obtain ⟨q, rfl⟩ : ∃ q, k = 40 + q := ⟨k - 40, by omega⟩
    by_cases hq : q = p
    · subst hq
      rw [p_eq, hE_on (by omega), hE_on (by omega), tb_xor, if_pos rfl]
      cases e.testBit q <;> decide
    · rw [p_ne (by omega), hE_on (by omega), hE_on (by omega), tb_xor, if_neg hq]
  · rw [p_ne (by omega), hE_off hk, hE_off hk]
theorem n_xor : ∀ e, e < 256 → ∀ p, p < 8 → Int32.ofNat e ^^^ ((1 : Int32) <<< (Int32.ofNat p &&& 31)) = Int32.ofNat (e ^^^ 2 ^ p) := by decide +kernel
theorem xor_lt (hp : p < n) (he : e < 2 ^ n) : e ^^^ 2 ^ p < 2 ^ n := Nat.xor_lt_two_pow he (Nat.pow_lt_pow_right (by omega) hp)
/-! both do their best -/
def fldB (T : Nat → Int32) (t0 : Int32) (b : Bool) : Nat → Int32
  | 0 => t0
  | m + 1 => if b = true then (if fldB T t0 b m < T m then T m else fldB T t0 b m) else (if T m < fldB T t0 b m then T m else fldB T t0 b m)
def shB (S : Nat → Int32) (n : Nat) : Nat → Nat → Bool → Int32
  | 0, e, _ => S e
  | l + 1, e, b => fldB (fun m => shB S n l (e ^^^ 2 ^ m) (!b)) (shB S n l e (!b)) b n
def bI (b : Bool) : Int32 := if b = true then 1 else 0
theorem c_shareBehind (hw : WOk A F 1 n y) (hwt : ∀ q, q < 8 → A 10 q = wgt tc (A 2) n y q) (hp : p < n) : ∀ (l : Nat), l ≤ 3 → ∀ (K e : Nat) (b : Bool) (A1 F1 : Nat → Nat → Int32) (g : Int32 → xm_H → Prop), 3 + l < K → e < 2 ^ n → Ag [11, 12] A A1 → Ag [5] F F1 → (∀ A' F', Ag [11, 12] A A' → Ag [5] F F' → g (shB (fun e => sSh tc (A 2) n y e p) n l e b) (HP A' L F')) → xm_Call K sX8_shareBehind 8 [.ref 0, .int (Int32.ofNat p), .int (Int32.ofNat l), .int (Int32.ofNat e), .int (bI b)] (HP A1 L F1) (xm_pi g)
  | 0, _, K, e, b, A1, F1, g, hK, he, a1, a2, H => by
    have hn8 := hw.2.2.1
    refine eX8_shareBehind (K := 3) hK ⟨_, rfl⟩ ?_
    rw [if_neg (show ¬ (0 : Int32) < Int32.ofNat 0 by decide)]
    refine ⟨_, rfl, _, rfl, ?_⟩
    have w1 : WOk A1 F1 1 n y := hw.to a1 a2 (by simp) (by simp)
    refine c_shareOut2 (tc := tc) (by omega) w1 (lt256 hn8 he) (by rw [a1 10 (by simp)]; show ∀ q, q < 8 → A 10 q = wgt tc (A1 2) n y q; rw [a1 2 (by simp)]; exact hwt) (fun A2 F2 b1 b2 _ b4 => ⟨_, rfl, c_shareOf (by omega) (by omega) (xm_pi_i ?_)⟩)
    have e2 : A1 (1 + 1) = A 2 := a1 2 (by simp)
    rw [b4.2.2.1 p (by omega), e2]
    exact H A2 F2 (Ag.tr a1 b1) (Ag.tr a2 b2)
  | l + 1, hl, K, e, b, A1, F1, g, hK, he, a1, a2, H => by
    have hn8 := hw.2.2.1
    have ih := c_shareBehind hw hwt hp l (by omega) (3 + (l + 1))
    have loop : ∀ A2 F2, Ag [11, 12] A A2 → Ag [5] F F2 → xm_L (3 + (l + 1)) sX8_shareBehind kX8_shareBehind 28 [some (.ref 0), some (.int (Int32.ofNat p)), some (.int (Int32.ofNat (l + 1))), some (.int (Int32.ofNat e)), some (.int (bI b)), some (.int (shB (fun e => sSh tc (A 2) n y e p) n l e (!b))), some (.int (0 : Int32)), none] [] (HP A2 L F2) (xm_pi g) := by
      intro A2 F2 a3 a4
      refine xm_for (n := n) (Q := fun m h => xm_L (3 + (l + 1)) sX8_shareBehind kX8_shareBehind 28 [some (.ref 0), some (.int (Int32.ofNat p)), some (.int (Int32.ofNat (l + 1))), some (.int (Int32.ofNat e)), some (.int (bI b)), some (.int (fldB (fun m => shB (fun e => sSh tc (A 2) n y e p) n l (e ^^^ 2 ^ m) (!b)) (shB (fun e => sSh tc (A 2) n y e p) n l e (!b)) b m)), some (.int (Int32.ofNat m)), none] [] h (xm_pi g)) (fun _ h => ∃ A' F', h = HP A' L F' ∧ Ag [11, 12] A A' ∧ Ag [5] F F') ?_ ?_ 0 _ (Nat.zero_le _) ⟨A2, F2, rfl, a3, a4⟩
      · rintro m h hm ⟨A3, F3, rfl, a5, a6⟩ ih2
        refine xX8_shareBehind_28 ⟨_, rfl, _, rfl, ?_⟩
        rw [show F3 1 1 = Int32.ofNat n by rw [a6 1 (by simp)]; exact hw.2.1, if_pos ((n_lt (by omega) (by omega)).mpr hm), n_pred, n_xor e (lt256 hn8 he) m (by omega), n_succ]
        have e1 : ∀ b, fldB (fun m => shB (fun e => sSh tc (A 2) n y e p) n l (e ^^^ 2 ^ m) (!b)) (shB (fun e => sSh tc (A 2) n y e p) n l e (!b)) b (m + 1) = if b = true then (if fldB (fun m => shB (fun e => sSh tc (A 2) n y e p) n l (e ^^^ 2 ^ m) (!b)) (shB (fun e => sSh tc (A 2) n y e p) n l e (!b)) b m < shB (fun e => sSh tc (A 2) n y e p) n l (e ^^^ 2 ^ m) (!b) then shB (fun e => sSh tc (A 2) n y e p) n l (e ^^^ 2 ^ m) (!b) else fldB (fun m => shB (fun e => sSh tc (A 2) n y e p) n l (e ^^^ 2 ^ m) (!b)) (shB (fun e => sSh tc (A 2) n y e p) n l e (!b)) b m) else (if shB (fun e => sSh tc (A 2) n y e p) n l (e ^^^ 2 ^ m) (!b) < fldB (fun m => shB (fun e => sSh tc (A 2) n y e p) n l (e ^^^ 2 ^ m) (!b)) (shB (fun e => sSh tc (A 2) n y e p) n l e (!b)) b m then shB (fun e => sSh tc (A 2) n y e p) n l (e ^^^ 2 ^ m) (!b) else fldB (fun m => shB (fun e => sSh tc (A 2) n y e p) n l (e ^^^ 2 ^ m) (!b)) (shB (fun e => sSh tc (A 2) n y e p) n l e (!b)) b m) := fun b => rfl
        rw [e1 b] at ih2
        cases b with
        | false =>
          rw [if_pos (show bI false = 0 from rfl)]
          refine ih (e ^^^ 2 ^ m) true A3 F3 _ (by omega) (xor_lt hm he) a5 a6 (fun A4 F4 a7 a8 => ?_)
          rw [if_pos (show bI false = 0 from rfl)]
          rw [if_neg (by decide)] at ih2
          exact c_min (by omega) (ih2 _ ⟨A4, F4, rfl, a7, a8⟩)
        | true =>
          rw [if_neg (show ¬ bI true = 0 by decide)]
          refine ih (e ^^^ 2 ^ m) false A3 F3 _ (by omega) (xor_lt hm he) a5 a6 (fun A4 F4 a7 a8 => ?_)
          rw [if_neg (show ¬ bI true = 0 by decide)]
          rw [if_pos rfl] at ih2
          exact c_max (by omega) (ih2 _ ⟨A4, F4, rfl, a7, a8⟩)
      · rintro h ⟨A3, F3, rfl, a5, a6⟩
        refine xX8_shareBehind_28 ⟨_, rfl, _, rfl, ?_⟩
        rw [show F3 1 1 = Int32.ofNat n by rw [a6 1 (by simp)]; exact hw.2.1, if_neg (n_ge (by omega) (by omega) (Nat.le_refl _))]
        exact xm_pi_i (H A3 F3 a5 a6)
    refine eX8_shareBehind (K := 3 + (l + 1)) hK ⟨_, rfl⟩ ?_
    rw [if_pos (show (0 : Int32) < Int32.ofNat (l + 1) from (n_lt (p := 0) (by omega) (by omega)).mpr (by omega)), n_pred]
    cases b with
    | false =>
      rw [if_pos (show bI false = 0 from rfl)]
      exact ih e true A1 F1 _ (by omega) he a1 a2 (fun A4 F4 a7 a8 => loop A4 F4 a7 a8)
    | true =>
      rw [if_neg (show ¬ bI true = 0 by decide)]
      exact ih e false A1 F1 _ (by omega) he a1 a2 (fun A4 F4 a7 a8 => loop A4 F4 a7 a8)
/-! who is picked -/
def pkB (T : Nat → Int32) (t0 : Int32) : Nat → Nat
  | 0 => 8
  | m + 1 => if fldB T t0 true m < T m then m else pkB T t0 m
theorem fldB_t (T : Nat → Int32) (t0 : Int32) (m : Nat) : fldB T t0 true (m + 1) = if fldB T t0 true m < T m then T m else fldB T t0 true m := rfl
theorem pkB_inv (T : Nat → Int32) (t0 : Int32) : ∀ m, (pkB T t0 m = 8 ∧ fldB T t0 true m = t0) ∨ (pkB T t0 m < m ∧ T (pkB T t0 m) = fldB T t0 true m ∧ t0 < fldB T t0 true m ∧ ∀ r, r < pkB T t0 m → T r < fldB T t0 true m)
  | 0 => Or.inl ⟨rfl, rfl⟩
  | m + 1 => by
    have ih := pkB_inv T t0 m
    have e1 : pkB T t0 (m + 1) = if fldB T t0 true m < T m then m else pkB T t0 m := rfl
    rw [e1, fldB_t]
    by_cases hc : fldB T t0 true m < T m
    · rw [if_pos hc, if_pos hc]
      right
      have mono : ∀ m, (∀ r, r < m → ¬ fldB T t0 true m < T r) ∧ ¬ fldB T t0 true m < t0 := by
        intro m
        induction m with
        | zero => exact ⟨fun r hr => absurd hr (by omega), by rw [Int32.lt_iff_toInt_lt]; show ¬ t0.toInt < t0.toInt; omega⟩
        | succ m ihm =>
          rw [fldB_t]
          by_cases h : fldB T t0 true m < T m
          · rw [if_pos h]
            refine ⟨fun r hr => ?_, by have := ihm.2; rw [Int32.lt_iff_toInt_lt] at *; omega⟩
            by_cases hrm : r = m
            · subst hrm; rw [Int32.lt_iff_toInt_lt]; omega
            · have := ihm.1 r (by omega); rw [Int32.lt_iff_toInt_lt] at *; omega
          · rw [if_neg h]
            refine ⟨fun r hr => ?_, ihm.2⟩
            by_cases hrm : r = m
            · subst hrm; exact h
            · exact ihm.1 r (by omega)
      refine ⟨by omega, rfl, ?_, fun r hr => ?_⟩
      · have := (mono m).2; rw [Int32.lt_iff_toInt_lt] at *; omega
      · have := (mono m).1 r hr; rw [Int32.lt_iff_toInt_lt] at *; omega
    · rw [if_neg hc, if_neg hc]
      rcases ih with a | ⟨a, b⟩
      · exact Or.inl a
      · exact Or.inr ⟨by omega, b⟩
def okB (n : Nat) (x1 x2 x3 : Int32) : Prop := (¬ x1 < 0 ∧ x1 < Int32.ofNat n) ∧ ¬ x2 < 1 ∧ ¬ 3 < x2 ∧ (x3 = 0 ∨ x3 = 1)
def trT (tc : (Nat → Int32) → Int32) (c : Nat → Int32) (n y p l : Nat) : Nat → Int32 := fun m => shB (fun e => sSh tc c n y e p) n l (earsOf c n ^^^ 2 ^ m) false
def tr0 (tc : (Nat → Int32) → Int32) (c : Nat → Int32) (n y p l : Nat) : Int32 := shB (fun e => sSh tc c n y e p) n l (earsOf c n) false
def trS (tc : (Nat → Int32) → Int32) (c : Nat → Int32) (n y p l : Nat) (x3 : Int32) : Int32 := if x3 = 0 then fldB (trT tc c n y p l) (tr0 tc c n y p l) true n else Int32.ofNat (pkB (trT tc c n y p l) (tr0 tc c n y p l) n)
theorem n_of3 {x : Int32} (h0 : ¬ x < 1) (h1 : ¬ (3 : Int32) < x) : ∃ l, l < 3 ∧ x = Int32.ofNat (l + 1) := by
  have t1 : (1 : Int32).toInt = 1 := rfl
  have t3 : (3 : Int32).toInt = 3 := rfl
  have t0 : (0 : Int32).toInt = 0 := rfl
  obtain ⟨m, h2, h3⟩ := n_of (n := 4) (x := x) (by omega) (by rw [Int32.lt_iff_toInt_lt] at *; omega) (by
    rw [Int32.lt_iff_toInt_lt] at h1 ⊢
    have : (Int32.ofNat 4).toInt = 4 := rfl
    omega)
  subst h3
  rw [Int32.lt_iff_toInt_lt, n_ti (by omega)] at h0
  exact ⟨m - 1, by omega, by rw [show m - 1 + 1 = m by omega]⟩
theorem q_byTurns (hK : 7 < K) (hN : NowOk A F tc n y) {x1 x2 x3 : Int32} (H : okB n x1 x2 x3 → ∀ p l, p < n → l < 3 → x1 = Int32.ofNat p → x2 = Int32.ofNat (l + 1) → ∀ A' F', Sc A F A' F' → g (trS tc (A 2) n y p l x3) (HP A' L F')) (H2 : ¬ okB n x1 x2 x3 → g (-1) (HP A L F)) : xm_Call K sX8_byTurns 8 [.ref 0, .int x1, .int x2, .int x3] (HP A L F) (xm_pi g) := by
  have hn8 := hN.1.2.2.1
  have hlt : earsOf (A 2) n < 2 ^ n := bitsN_lt _ n
  refine eX8_byTurns (K := 7) hK ⟨_, rfl⟩ ⟨_, rfl, c_has (n := n) (by omega) hN.1.1 hN.1.2.1 hn8 (fun p hp he => ?_) (fun q => ?_)⟩
  · rw [if_neg (by decide)]
    by_cases a1 : x2 < 1
    · rw [if_pos a1]; exact xm_pi_i (H2 (fun q => q.2.1 a1))
    · rw [if_neg a1]
      by_cases a2 : 3 < x2
      · rw [if_pos a2]; exact xm_pi_i (H2 (fun q => q.2.2.1 a2))
      · rw [if_neg a2]
        obtain ⟨l, hl, hx⟩ := n_of3 a1 a2
        have go : (x3 = 0 ∨ x3 = 1) → xm_Call 7 sX4_weigh 4 [.ref 5, .ref 1] (HP A L F) (xm_pv fun h6 =>
                ∃ q7, xm_fld h6 0 8 0 = some (.ref q7) ∧
                xm_Call 7 sX7_ears 7 [.ref q7] h6 (xm_pi fun c9 h8 =>
                  xm_Call 7 sX8_shareBehind 8 [.ref 0, .int x1, .int (x2 - (1 : Int32)), .int c9, .int (0 : Int32)] h8 (xm_pi fun c11 h10 =>
                    xm_L 7 sX8_byTurns kX8_byTurns 40 [some (.ref 0), some (.int x1), some (.int x2), some (.int x3), some (.int c9), some (.int (8 : Int32)), some (.int c11), some (.int (0 : Int32)), none] [] h10 (xm_pi g)))) := by
          intro h3
          have hh := H ⟨⟨by rw [he]; exact xs_nn (by omega), by rw [he]; exact (n_lt (by omega) (by omega)).mpr hp⟩, a1, a2, h3⟩ p l hp hl he hx
          refine c_weigh (tc := tc) (by omega) hN.1.1 hN.1.2.1 hn8 hN.1.2.2.2.1 hN.1.2.2.2.2.1 hN.2.1 (fun A1 F1 b1 b2 b3 b4 => ⟨_, rfl, ?_⟩)
          have e2 : A1 2 = A 2 := b1 2 (by simp)
          have w1 : WOk A1 F1 1 n y := hN.1.to b1 b3 (by simp) (by simp)
          have hwt : ∀ q, q < 8 → A1 10 q = wgt tc (A1 2) n y q := by rw [e2]; exact b2
          have sc : ∀ A' F', Ag [11, 12] A1 A' → Ag [5] F1 F' → Sc A F A' F' := fun A' F' d1 d2 => ⟨Ag.tr (b1.mono (fun k hk => by simp at hk ⊢; omega)) (d1.mono (fun k hk => by simp at hk ⊢; omega)), Ag.tr (b3.mono (fun k hk => by simp at hk ⊢; omega)) (d2.mono (fun k hk => by simp at hk ⊢; omega)), by rw [d1 4 (by simp), b1 4 (by simp)]; exact hN.2.2.2⟩
          refine c_ears (by omega) w1.1 w1.2.1 hn8 w1.2.2.2.2.2 ?_
          show xm_Call 7 sX8_shareBehind 8 [.ref 0, .int x1, .int (x2 - (1 : Int32)), .int (Int32.ofNat (earsOf (A1 2) n)), .int (0 : Int32)] _ _
          rw [e2, he, hx, n_pred]
          refine c_shareBehind (tc := tc) w1 hwt hp l (by omega) 7 (earsOf (A 2) n) false A1 F1 _ (by omega) hlt Ag.rf Ag.rf (fun A2 F2 d1 d2 => ?_)
          rw [e2]
          refine xm_for (n := n) (Q := fun m h => xm_L 7 sX8_byTurns kX8_byTurns 40 [some (.ref 0), some (.int (Int32.ofNat p)), some (.int (Int32.ofNat (l + 1))), some (.int x3), some (.int (Int32.ofNat (earsOf (A 2) n))), some (.int (Int32.ofNat (pkB (trT tc (A 2) n y p l) (tr0 tc (A 2) n y p l) m))), some (.int (fldB (trT tc (A 2) n y p l) (tr0 tc (A 2) n y p l) true m)), some (.int (Int32.ofNat m)), none] [] h (xm_pi g)) (fun _ h => ∃ A' F', h = HP A' L F' ∧ Ag [11, 12] A1 A' ∧ Ag [5] F1 F') ?_ ?_ 0 _ (Nat.zero_le _) ⟨A2, F2, rfl, d1, d2⟩
          · rintro m h hm ⟨A3, F3, rfl, d3, d4⟩ ih
            refine xX8_byTurns_40 ⟨_, rfl, _, rfl, ?_⟩
            rw [show F3 1 1 = Int32.ofNat n by rw [d4 1 (by simp)]; exact w1.2.1, if_pos ((n_lt (by omega) (by omega)).mpr hm), n_pred, n_xor _ (lt256 hn8 hlt) m (by omega), n_succ]
            refine c_shareBehind (tc := tc) w1 hwt hp l (by omega) 7 (earsOf (A 2) n ^^^ 2 ^ m) false A3 F3 _ (by omega) (xor_lt hm hlt) d3 d4 (fun A4 F4 d5 d6 => ?_)
            rw [e2]
            have hi := ih _ ⟨A4, F4, rfl, d5, d6⟩
            have k1 : pkB (trT tc (A 2) n y p l) (tr0 tc (A 2) n y p l) (m + 1) = if fldB (trT tc (A 2) n y p l) (tr0 tc (A 2) n y p l) true m < trT tc (A 2) n y p l m then m else pkB (trT tc (A 2) n y p l) (tr0 tc (A 2) n y p l) m := rfl
            rw [k1, fldB_t] at hi
            show (if fldB (trT tc (A 2) n y p l) (tr0 tc (A 2) n y p l) true m < trT tc (A 2) n y p l m then _ else _)
            split
            · next hc => rw [if_pos hc, if_pos hc] at hi; exact hi
            · next hc => rw [if_neg hc, if_neg hc] at hi; exact hi
          · rintro h ⟨A3, F3, rfl, d3, d4⟩
            refine xX8_byTurns_40 ⟨_, rfl, _, rfl, ?_⟩
            rw [show F3 1 1 = Int32.ofNat n by rw [d4 1 (by simp)]; exact w1.2.1, if_neg (n_ge (by omega) (by omega) (Nat.le_refl _))]
            have h5 := hh A3 F3 (sc A3 F3 d3 d4)
            unfold trS at h5
            by_cases h0 : x3 = 0
            · rw [if_pos h0] at h5 ⊢; exact xm_pi_i h5
            · rw [if_neg h0] at h5 ⊢; exact xm_pi_i h5
        by_cases h0 : x3 = 0
        · rw [if_pos h0]; exact ⟨_, rfl, _, rfl, go (Or.inl h0)⟩
        · rw [if_neg h0]
          by_cases h1 : x3 = 1
          · rw [if_pos h1]; exact ⟨_, rfl, _, rfl, go (Or.inr h1)⟩
          · rw [if_neg h1]; exact xm_pi_i (H2 (fun q => q.2.2.2.elim h0 h1))
  · rw [if_pos rfl]
    exact xm_pi_i (H2 (fun ok => q.elim ok.1.1 (fun z => z ok.1.2)))
end TRN
