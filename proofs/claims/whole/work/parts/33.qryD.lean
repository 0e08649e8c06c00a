section QRD
variable {A : Nat → Nat → Int32} {L : Nat → Nat → Int64} {F : Nat → Nat → Int32} {g : Int32 → xm_H → Prop} {gv : xm_H → Prop} {w n p k j y e m K : Nat} {x v z : Int32} {h : xm_H} {tc : (Nat → Int32) → Int32} {c : Nat → Int32}
def yY (y : Nat) : Nat → Nat
  | 0 => y
  | m + 1 => min 199 (yY y m + 1)
theorem yY_lt (h : y < 200) : ∀ m, yY y m < 200
  | 0 => h
  | m + 1 => by show min 199 (yY y m + 1) < 200; omega
def yCs (tc : (Nat → Int32) → Int32) (c : Nat → Int32) (n y : Nat) : Nat → Nat → Int32
  | 0 => c
  | m + 1 => yrS tc (yCs tc c n y m) n (yY y m)
def paidY (tc : (Nat → Int32) → Int32) (c : Nat → Int32) (n y : Nat) : Nat → Int32
  | 0 => 0
  | m + 1 => paidY tc c n y m + sPaid tc (yCs tc c n y m) n (yY y m) (earsOf (yCs tc c n y m) n)
def lackY (tc : (Nat → Int32) → Int32) (c : Nat → Int32) (n y : Nat) : Nat → Int32
  | 0 => 0
  | m + 1 => lackY tc c n y m + lackS (yCs tc c n y m) (yY y m) (sSh tc (yCs tc c n y m) n (yY y m) (earsOf (yCs tc c n y m) n)) n
theorem n_min : ∀ y, y < 200 → minI 199 (Int32.ofNat y + 1) = Int32.ofNat (min 199 (y + 1)) := by decide +kernel
theorem yr_wok {A' F' : Nat → Nat → Int32} (hw : WOk A F w n y) (h : A' (w + 1) = yrS tc (A (w + 1)) n y) (hF : F' w = F w) : WOk A' F' w n (min 199 (y + 1)) := by
  obtain ⟨a1, a2, a3, a4, a5, a6⟩ := hw
  refine ⟨a1, by rw [hF]; exact a2, a3, by omega, by rw [h, yrS, p_eq]; exact n_min y a4, fun p hp => ?_⟩
  have : yrS tc (A (w + 1)) n y (40 + p) = A (w + 1) (40 + p) := by rw [yrS, p_ne (by omega)]; exact yrC_at _ _ _ _ _ a3 (by omega)
  rw [h, this]; exact a6 p hp
/-- the world tried out on is c of the year y -/
def ThI (A F : Nat → Nat → Int32) (L : Nat → Nat → Int64) (c : Nat → Int32) (n y : Nat) (h : xm_H) : Prop := ∃ A' F', h = HP A' L F' ∧ Sc A F A' F' ∧ A' 4 = c ∧ WOk A' F' 3 n y
theorem ThI.start (hN : NowOk A F tc n y) : ThI A F L (A 2) n y (HP (va_up A 4 (A 2)) L (va_up F 3 (va_up (F 3) 1 (F 1 1)))) := ⟨_, _, rfl, ⟨Ag.up Ag.rf (by simp), Ag.up Ag.rf (by simp), by rw [u_eq]; exact hN.2.2.1⟩, u_eq, wok_th hN rfl (fun _ _ => rfl)⟩
theorem ThI.set (hN : NowOk A F tc n y) (hp : p < n) : ThI A F L (upd (A 2) (24 + p) x) n y (HP (va_up (va_up A 4 (A 2)) (3 + 1) (upd (va_up A 4 (A 2) (3 + 1)) (8 * 3 + p) x)) L (va_up F 3 (va_up (F 3) 1 (F 1 1)))) := by
  have hn8 := hN.1.2.2.1
  rw [show (3 : Nat) + 1 = 4 from rfl, u_eq, up2]
  exact ⟨_, _, rfl, ⟨Ag.up Ag.rf (by simp), Ag.up Ag.rf (by simp), by rw [u_eq]; exact hN.2.2.1.up (by omega)⟩, u_eq, wok_th hN (p_ne (by omega)) (fun q hq => p_ne (by omega))⟩
/-- a year more of the world tried out on -/
theorem c_yearT (hK : 6 < K) (hN : NowOk A F tc n y) {y1 : Nat} (hI : ThI A F L c n y1 h) (H : ∀ A' F', ThI A F L (yrS tc c n y1) n (min 199 (y1 + 1)) (HP A' L F') → F' 5 9 = sPaid tc c n y1 (earsOf c n) → F' 5 10 = lackS c y1 (sSh tc c n y1 (earsOf c n)) n → gv (HP A' L F')) : xm_Call K sX4_endYear 4 [.ref 5, .ref 3] h (xm_pv gv) := by
  obtain ⟨A1, F1, rfl, s1, e4, w1⟩ := hI
  have hN1 := s1.now hN
  refine c_endYear (tc := tc) (y := y1) hK w1 hN1.2.1 (fun A2 F2 a1 a2 a3 a4 a5 => ?_)
  have e5 : A1 (3 + 1) = c := e4
  rw [e5] at a2 a4 a5
  refine H A2 F2 ⟨A2, F2, rfl, s1.tr ⟨a1.mono (fun k hk => by simp at hk ⊢; omega), a3.mono (fun k hk => by simp at hk ⊢; omega), ?_⟩, a2, ?_⟩ a4.2.2.2.2.2 a5
  · show Zr (A2 (3 + 1))
    rw [a2, ← e4]
    exact yrS_Zr hN1.2.2.2 w1.2.2.1
  · exact yr_wok (tc := tc) w1 (by rw [e5]; exact a2) (a3 3 (by simp))
def okL (n : Nat) (x1 x2 x3 : Int32) : Prop := ¬ x1 < 0 ∧ ¬ 60 < x1 ∧ ¬ x3 < 0 ∧ ¬ 4 < x3 ∧ (((x3 = 0 ∨ x3 = 1) ∧ ¬ x2 < 0 ∧ x2 < Int32.ofNat n) ∨ (¬ (x3 = 0 ∨ x3 = 1) ∧ x2 = 0))
def latS (tc : (Nat → Int32) → Int32) (c : Nat → Int32) (n y m p : Nat) (x3 : Int32) : Int32 :=
  if x3 = 0 then yCs tc c n y m (8 + p) else if x3 = 1 then yCs tc c n y m (16 + p) else if x3 = 2 then paidY tc c n y m else if x3 = 3 then lackY tc c n y m else whl (yCs tc c n y m) (yY y m)
theorem later_loop (hN : NowOk A F tc n y) {x3 : Int32} (hm : m ≤ 60) (hp : (x3 = 0 ∨ x3 = 1) → p < n) (hh : ThI A F L (A 2) n y h) (H : ∀ A' F', Sc A F A' F' → g (latS tc (A 2) n y m p x3) (HP A' L F')) : xm_L 7 sX8_later kX8_later 42 [some (.ref 0), some (.int (Int32.ofNat m)), some (.int (Int32.ofNat p)), some (.int x3), none, some (.int (0 : Int32)), some (.int (0 : Int32)), some (.int (0 : Int32))] [] h (xm_pi g) := by
  refine xm_for (n := m) (Q := fun k h => xm_L 7 sX8_later kX8_later 42 [some (.ref 0), some (.int (Int32.ofNat m)), some (.int (Int32.ofNat p)), some (.int x3), none, some (.int (paidY tc (A 2) n y k)), some (.int (lackY tc (A 2) n y k)), some (.int (Int32.ofNat k))] [] h (xm_pi g)) (fun k h => ThI A F L (yCs tc (A 2) n y k) n (yY y k) h) ?_ ?_ 0 _ (Nat.zero_le _) hh
  · rintro k h hk hI ih
    have hI0 := hI
    obtain ⟨A1, F1, rfl, -⟩ := hI0
    refine xX8_later_42 ?_
    rw [if_pos ((n_lt (by omega) (by omega)).mpr hk)]
    refine ⟨_, rfl, _, rfl, c_yearT (by omega) hN hI (fun A2 F2 t1 t2 t3 => ⟨_, rfl, _, rfl, _, rfl, _, rfl, ?_⟩)⟩
    rw [n_succ, t2, t3]
    exact ih _ t1
  · rintro h ⟨A1, F1, rfl, s1, e4, w1⟩
    refine xX8_later_42 ?_
    rw [if_neg (fun q => absurd ((n_lt (by omega) (by omega)).mp q) (by omega))]
    have hh := H A1 F1 s1
    unfold latS at hh
    by_cases h0 : x3 = 0
    · rw [if_pos h0] at hh ⊢
      refine ⟨_, rfl, c_get (k := 1) (by omega) w1.1 w1.2.1 w1.2.2.1 (hp (Or.inl h0)) (by omega) (xm_pi_i ?_)⟩
      show g (A1 4 (8 + p)) _
      rw [e4]; exact hh
    · rw [if_neg h0] at hh ⊢
      by_cases h1 : x3 = 1
      · rw [if_pos h1] at hh ⊢
        refine ⟨_, rfl, c_get (k := 2) (by omega) w1.1 w1.2.1 w1.2.2.1 (hp (Or.inr h1)) (by omega) (xm_pi_i ?_)⟩
        show g (A1 4 (16 + p)) _
        rw [e4]; exact hh
      · rw [if_neg h1] at hh ⊢
        by_cases h2 : x3 = 2
        · rw [if_pos h2] at hh ⊢; exact xm_pi_i hh
        · rw [if_neg h2] at hh ⊢
          by_cases h3 : x3 = 3
          · rw [if_pos h3] at hh ⊢; exact xm_pi_i hh
          · rw [if_neg h3] at hh ⊢
            refine ⟨_, rfl, c_snow (by omega) w1.1 w1.2.2.2.1 w1.2.2.2.2.1 ⟨_, rfl, c_get_b (k := 9) (by omega) w1.1 (by omega) (by omega) (xm_pi_i ?_)⟩⟩
            show g (A1 4 (56 + yY y m % 8) * A1 4 65) _
            rw [e4]; exact hh
theorem n_of60 {x : Int32} (h0 : ¬ x < 0) (h1 : ¬ (60 : Int32) < x) : ∃ m, m ≤ 60 ∧ x = Int32.ofNat m := by
  obtain ⟨m, h2, h3⟩ := n_of (n := 61) (by omega) h0 (by
    rw [Int32.lt_iff_toInt_lt] at h1 ⊢
    have : (60 : Int32).toInt = 60 := rfl
    have : (Int32.ofNat 61).toInt = 61 := rfl
    omega)
  exact ⟨m, by omega, h3⟩
theorem q_later (hK : 7 < K) (hN : NowOk A F tc n y) {x1 x2 x3 : Int32} (H : okL n x1 x2 x3 → ∀ m p, m ≤ 60 → p < 8 → x1 = Int32.ofNat m → x2 = Int32.ofNat p → ∀ A' F', Sc A F A' F' → g (latS tc (A 2) n y m p x3) (HP A' L F')) (H2 : ¬ okL n x1 x2 x3 → g (-1) (HP A L F)) : xm_Call K sX8_later 8 [.ref 0, .int x1, .int x2, .int x3] (HP A L F) (xm_pi g) := by
  have hn8 := hN.1.2.2.1
  refine eX8_later (K := 7) hK ⟨_, rfl⟩ ?_
  have two : (x3 = 0 ∨ x3 = 1) → (if x1 < 0 then xm_pi g (some (.int (-1 : Int32))) (HP A L F) else (if (60 : Int32) < x1 then xm_pi g (some (.int (-1 : Int32))) (HP A L F) else (if x3 < 0 then xm_pi g (some (.int (-1 : Int32))) (HP A L F) else (if (4 : Int32) < x3 then xm_pi g (some (.int (-1 : Int32))) (HP A L F) else ∃ q1, xm_fld (HP A L F) 0 8 0 = some (.ref q1) ∧ xm_Call 7 sX7_has 7 [.ref q1, .int x2] (HP A L F) (xm_pi fun c3 h2 => (if c3 = 0 then xm_pi g (some (.int (-1 : Int32))) h2 else ∃ q4, xm_fld h2 0 8 1 = some (.ref q4) ∧ ∃ q5, xm_fld h2 0 8 0 = some (.ref q5) ∧ xm_Call 7 sX7_copy 7 [.ref q4, .ref q5] h2 (xm_pv fun h6 => xm_L 7 sX8_later kX8_later 42 [some (.ref 0), some (.int x1), some (.int x2), some (.int x3), none, some (.int (0 : Int32)), some (.int (0 : Int32)), some (.int (0 : Int32))] [] h6 (xm_pi g)))))))) := by
    intro hx
    by_cases a1 : x1 < 0
    · rw [if_pos a1]; exact xm_pi_i (H2 (fun q => q.1 a1))
    · rw [if_neg a1]
      by_cases a2 : (60 : Int32) < x1
      · rw [if_pos a2]; exact xm_pi_i (H2 (fun q => q.2.1 a2))
      · rw [if_neg a2]
        by_cases a3 : x3 < 0
        · rw [if_pos a3]; exact xm_pi_i (H2 (fun q => q.2.2.1 a3))
        · rw [if_neg a3]
          by_cases a4 : (4 : Int32) < x3
          · rw [if_pos a4]; exact xm_pi_i (H2 (fun q => q.2.2.2.1 a4))
          · rw [if_neg a4]
            refine ⟨_, rfl, c_has (n := n) (by omega) hN.1.1 hN.1.2.1 hn8 (fun p hp he => ?_) (fun q => ?_)⟩
            · rw [if_neg (by decide)]
              obtain ⟨m, hm, hxm⟩ := n_of60 a1 a2
              have hok : okL n x1 x2 x3 := ⟨a1, a2, a3, a4, Or.inl ⟨hx, by rw [he]; exact xs_nn (by omega), by rw [he]; exact (n_lt (by omega) (by omega)).mpr hp⟩⟩
              refine ⟨_, rfl, _, rfl, c_copyT (by omega) hN.2.2.1 hN.2.2.2 ?_⟩
              rw [hxm, he]
              exact later_loop hN hm (fun _ => hp) (ThI.start hN) (H hok m p hm (by omega) hxm he)
            · rw [if_pos rfl]
              refine xm_pi_i (H2 (fun ok => ?_))
              rcases ok.2.2.2.2 with ⟨_, b1, b2⟩ | ⟨b1, _⟩
              · exact q.elim b1 (fun z => z b2)
              · exact b1 hx
  by_cases h0 : x3 = 0
  · rw [if_pos h0]; exact two (Or.inl h0)
  · rw [if_neg h0]
    by_cases h1 : x3 = 1
    · rw [if_pos h1]; exact two (Or.inr h1)
    · rw [if_neg h1]
      have hx : ¬ (x3 = 0 ∨ x3 = 1) := fun q => q.elim h0 h1
      by_cases a1 : x1 < 0
      · rw [if_pos a1]; exact xm_pi_i (H2 (fun q => q.1 a1))
      · rw [if_neg a1]
        by_cases a2 : (60 : Int32) < x1
        · rw [if_pos a2]; exact xm_pi_i (H2 (fun q => q.2.1 a2))
        · rw [if_neg a2]
          by_cases a3 : x3 < 0
          · rw [if_pos a3]; exact xm_pi_i (H2 (fun q => q.2.2.1 a3))
          · rw [if_neg a3]
            by_cases a4 : (4 : Int32) < x3
            · rw [if_pos a4]; exact xm_pi_i (H2 (fun q => q.2.2.2.1 a4))
            · rw [if_neg a4]
              by_cases a5 : x2 = 0
              · rw [if_pos a5]
                obtain ⟨m, hm, hxm⟩ := n_of60 a1 a2
                refine ⟨_, rfl, _, rfl, c_copyT (by omega) hN.2.2.1 hN.2.2.2 ?_⟩
                rw [hxm, a5]
                exact later_loop (p := 0) hN hm (fun q => absurd q hx) (ThI.start hN) (H ⟨a1, a2, a3, a4, Or.inr ⟨hx, a5⟩⟩ m 0 hm (by omega) hxm a5)
              · rw [if_neg a5]
                refine xm_pi_i (H2 (fun ok => ?_))
                rcases ok.2.2.2.2 with ⟨b1, _⟩ | ⟨_, b1⟩
                · exact hx b1
                · exact a5 b1
end QRD
