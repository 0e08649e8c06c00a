section DRW
variable {A : Nat → Nat → Int32} {L : Nat → Nat → Int64} {F : Nat → Nat → Int32} {g : Int32 → xm_H → Prop} {gv : xm_H → Prop} {w n p k j y e m K : Nat} {x v z : Int32} {h : xm_H} {tc : (Nat → Int32) → Int32} {c : Nat → Int32}
/-! draws as numbers -/
theorem u_i32 (u : UInt32) : u.toInt32 = Int32.ofNat u.toNat := by
  have : UInt32.ofNat u.toNat = u := UInt32.ofNat_toNat
  exact congrArg UInt32.toInt32 this.symm
def uS (z : Int32) (k : Nat) : Nat := z.toUInt32.toNat / 2 ^ k
theorem uS_lt (z : Int32) (hk : 8 ≤ k) : uS z k < 16777216 := by
  have h1 : z.toUInt32.toNat < 4294967296 := UInt32.toNat_lt z.toUInt32
  have h2 : uS z k ≤ z.toUInt32.toNat / 2 ^ 8 := Nat.div_le_div_left (Nat.pow_le_pow_right (by omega) hk) (by decide)
  have : (2 : Nat) ^ 8 = 256 := by decide
  rw [this] at h2
  omega
theorem n_us {kI : Int32} (hk : kI.toUInt32 &&& Int32.toUInt32 31 = UInt32.ofNat k) (h31 : k < 32) : (((Int32.toUInt32 z) >>> ((Int32.toUInt32 kI) &&& Int32.toUInt32 31)).toInt32) = Int32.ofNat (uS z k) := by
  rw [hk, u_i32, UInt32.toNat_shiftRight, UInt32.toNat_ofNat_of_lt' (by show k < 4294967296; omega), Nat.mod_eq_of_lt h31, Nat.shiftRight_eq_div_pow]
  rfl
theorem n_rem {a b : Nat} (ha : a < 2147483648) (hb : b < 2147483648) (h0 : 0 < b) : Int32.ofNat a - Int32.ofNat a / Int32.ofNat b * Int32.ofNat b = Int32.ofNat (a % b) := by
  have ta := n_ti ha
  have tb := n_ti hb
  have hd := i_div (a := Int32.ofNat a) (b := Int32.ofNat b) (by omega) (by omega)
  rw [ta, tb] at hd
  have hle : a / b * b ≤ a := Nat.div_mul_le_self a b
  have hcast : ((a / b : Nat) : Int) = (a : Int) / (b : Int) := Int.natCast_ediv a b
  have hm : (Int32.ofNat a / Int32.ofNat b * Int32.ofNat b).toInt = ((a / b * b : Nat) : Int) := by
    have h1 : (Int32.ofNat a / Int32.ofNat b).toInt * (Int32.ofNat b).toInt = ((a / b * b : Nat) : Int) := by rw [hd, tb, Int.natCast_mul, hcast]
    rw [i_mul (by omega) (by omega), h1]
  have hmod : a % b = a - a / b * b := by have := Nat.div_add_mod a b; rw [Nat.mul_comm] at this; omega
  refine Int32.toInt_inj.mp ?_
  rw [i_sub (by omega) (by omega), ta, hm, n_ti (p := a % b) (by omega)]
  omega
/-- the world as it is stirred by the draw z -/
def stC (c : Nat → Int32) (n y : Nat) (z mo : Int32) : Nat → Int32 :=
  if 0 < n ∧ Int32.ofNat (uS z 24 % 12) < mo then upd (upd c (56 + y % 8) (Int32.ofNat (uS z 8 % 100))) (24 + uS z 16 % n) (Int32.ofNat (uS z 20 % 4)) else upd c (56 + y % 8) (Int32.ofNat (uS z 8 % 100))
def zK (z : Int32) : Nat → Int32
  | 0 => z
  | k + 1 => zK z k * 1103515245 + 12345
theorem zK_add (z : Int32) (a : Nat) : ∀ b, zK (zK z a) b = zK z (a + b)
  | 0 => rfl
  | b + 1 => by show zK (zK z a) b * 1103515245 + 12345 = zK z (a + b) * 1103515245 + 12345; rw [zK_add z a b]
def lfC (tc : (Nat → Int32) → Int32) (n y : Nat) (mo z : Int32) (c : Nat → Int32) : Nat → Nat → Int32
  | 0 => c
  | k + 1 => yrS tc (stC (lfC tc n y mo z c k) n (yY y k) (zK z (k + 1)) mo) n (yY y k)
def lfP (tc : (Nat → Int32) → Int32) (n y : Nat) (mo z : Int32) (c : Nat → Int32) : Nat → Int32
  | 0 => 0
  | k + 1 => lfP tc n y mo z c k + sPaid tc (stC (lfC tc n y mo z c k) n (yY y k) (zK z (k + 1)) mo) n (yY y k) (earsOf (stC (lfC tc n y mo z c k) n (yY y k) (zK z (k + 1)) mo) n)
def dwS (tc : (Nat → Int32) → Int32) (c : Nat → Int32) (n y : Nat) (mo z x3 : Int32) (p ld : Nat) : Nat → Int32
  | 0 => 0
  | i + 1 => dwS tc c n y mo z x3 p ld i + (if x3 = -1 then lfP tc n y mo (zK z (ld * i)) c ld else lfC tc n y mo (zK z (ld * i)) c ld (8 + p))
def rmI (a b : Int32) : Int32 := a - a / b * b
def okD (n : Nat) (x2 x3 : Int32) : Prop := (¬ x2 / 10000 < 1 ∧ ¬ 30 < x2 / 10000) ∧ (¬ rmI (x2 / 100) 100 < 1 ∧ ¬ 40 < rmI (x2 / 100) 100) ∧ ¬ 12 < rmI x2 100 ∧ (x3 = -1 ∨ (¬ x3 < 0 ∧ x3 < Int32.ofNat n))
theorem d_pos {x2 : Int32} (h : ¬ x2 / 10000 < 1) : ¬ x2 < 0 ∧ ¬ rmI x2 100 < 0 := by
  have t0 : (0 : Int32).toInt = 0 := rfl
  have t1 : (1 : Int32).toInt = 1 := rfl
  have t4 : (10000 : Int32).toInt = 10000 := rfl
  have hx : ¬ x2 < 0 := by
    intro hn
    refine h ?_
    rw [Int32.lt_iff_toInt_lt] at hn ⊢
    have hl := Int32.le_toInt x2
    have e1 : x2.toInt.tdiv 10000 = -((-x2.toInt) / 10000) := by
      rw [← Int.tdiv_eq_ediv_of_nonneg (by omega), ← Int.neg_tdiv, Int.neg_neg]
    rw [Int32.toInt_div, t4, e1, i_bm (by omega) (by omega)]
    omega
  refine ⟨hx, ?_⟩
  obtain ⟨m, hm, rfl⟩ : ∃ m, m < 2147483648 ∧ x2 = Int32.ofNat m := by
    rw [Int32.lt_iff_toInt_lt] at hx
    have hl := Int32.toInt_lt x2
    refine ⟨x2.toInt.toNat, by omega, ?_⟩
    rw [← Int32.toInt_inj, n_ti (by omega)]
    omega
  show ¬ Int32.ofNat m - Int32.ofNat m / Int32.ofNat 100 * Int32.ofNat 100 < 0
  rw [n_rem hm (by omega) (by omega)]
  exact xs_nn (by omega)
theorem n_ofle {x : Int32} {b : Nat} (hb : b < 1000) (h0 : ¬ x < 1) (h1 : ¬ Int32.ofNat b < x) : ∃ m, m ≤ b ∧ x = Int32.ofNat m := by
  have t1 : (1 : Int32).toInt = 1 := rfl
  have t0 : (0 : Int32).toInt = 0 := rfl
  obtain ⟨m, h2, h3⟩ := n_of (n := b + 1) (x := x) (by omega) (by rw [Int32.lt_iff_toInt_lt] at *; omega) (by
    rw [Int32.lt_iff_toInt_lt, n_ti (by omega)] at h1 ⊢
    omega)
  exact ⟨m, by omega, h3⟩
/-! the class -/
theorem ThI_upd {A1 F1 : Nat → Nat → Int32} {y1 : Nat} (s1 : Sc A F A1 F1) (e4 : A1 4 = c) (w1 : WOk A1 F1 3 n y1) (hk : k < 67) (hk2 : k < 40 ∨ 48 ≤ k) (hk3 : k ≠ 64) : ThI A F L (upd c k x) n y1 (HP (va_up A1 (3 + 1) (upd (A1 (3 + 1)) k x)) L F1) := by
  obtain ⟨a1, a2, a3, a4, a5, a6⟩ := w1
  refine ⟨_, _, rfl, s1.tr ⟨Ag.up Ag.rf (by simp), Ag.rf, ?_⟩, ?_, ?_⟩
  · show Zr (va_up A1 4 _ 4)
    rw [u_eq]; exact s1.2.2.up hk
  · show va_up A1 4 _ 4 = _
    rw [u_eq]; show upd (A1 4) k x = _; rw [e4]
  · refine ⟨a1, a2, a3, a4, ?_, fun q hq => ?_⟩
    · rw [u_eq, p_ne (by omega)]; exact a5
    · rw [u_eq, p_ne (by omega)]; exact a6 q hq
theorem n_u8 : Int32.toUInt32 8 &&& Int32.toUInt32 31 = UInt32.ofNat 8 := by decide
theorem n_u16 : Int32.toUInt32 16 &&& Int32.toUInt32 31 = UInt32.ofNat 16 := by decide
theorem n_u20 : Int32.toUInt32 20 &&& Int32.toUInt32 31 = UInt32.ofNat 20 := by decide
theorem n_u24 : Int32.toUInt32 24 &&& Int32.toUInt32 31 = UInt32.ofNat 24 := by decide
theorem n_r8 : Int32.ofNat (uS z 8) - Int32.ofNat (uS z 8) / 100 * 100 = Int32.ofNat (uS z 8 % 100) := n_rem (b := 100) (by have := uS_lt (k := 8) z (by omega); omega) (by omega) (by omega)
theorem n_r24 : Int32.ofNat (uS z 24) - Int32.ofNat (uS z 24) / 12 * 12 = Int32.ofNat (uS z 24 % 12) := n_rem (b := 12) (by have := uS_lt (k := 24) z (by omega); omega) (by omega) (by omega)
theorem n_r20 : Int32.ofNat (uS z 20) - Int32.ofNat (uS z 20) / 4 * 4 = Int32.ofNat (uS z 20 % 4) := n_rem (b := 4) (by have := uS_lt (k := 20) z (by omega); omega) (by omega) (by omega)
theorem n_r16 (hn : n ≤ 8) (h0 : 0 < n) : Int32.ofNat (uS z 16) - Int32.ofNat (uS z 16) / Int32.ofNat n * Int32.ofNat n = Int32.ofNat (uS z 16 % n) := n_rem (by have := uS_lt (k := 16) z (by omega); omega) (by omega) h0
theorem c_stir {y1 : Nat} {mo : Int32} (hK : 2 < K) (hN : NowOk A F tc n y) (hI : ThI A F L c n y1 h) (H : ∀ A' F', ThI A F L (stC c n y1 z mo) n y1 (HP A' L F') → gv (HP A' L F')) : xm_Call K sX8_stir 8 [.ref 0, .int z, .int mo] h (xm_pv gv) := by
  obtain ⟨A1, F1, rfl, s1, e4, w1⟩ := hI
  have hn8 := w1.2.2.1
  have hm8 := Nat.mod_lt y1 (show 0 < 8 by omega)
  refine eX8_stir (K := 2) hK ⟨_, rfl⟩ ⟨_, rfl, by decide, ?_⟩
  rw [n_us n_u8 (by omega), n_r8]
  refine c_setSnow (y := y1) (by omega) w1.1 w1.2.2.2.1 w1.2.2.2.2.1 ⟨_, rfl, _, rfl, ?_⟩
  have t1 := ThI_upd (L := L) (k := 56 + y1 % 8) (x := Int32.ofNat (uS z 8 % 100)) s1 e4 w1 (by omega) (by omega) (by omega)
  generalize va_up A1 (3 + 1) (upd (A1 (3 + 1)) (56 + y1 % 8) (Int32.ofNat (uS z 8 % 100))) = B at t1 ⊢
  obtain ⟨A2, F2, hh, s2, e5, w2⟩ := t1
  have hf : F1 3 1 = Int32.ofNat n := w1.2.1
  rw [hf, n_us n_u24 (by omega), n_r24]
  unfold stC at H
  by_cases h0 : 0 < n
  · rw [if_pos (show (0 : Int32) < Int32.ofNat n from (n_lt (p := 0) (by omega) (by omega)).mpr h0)]
    refine ⟨by decide, ?_⟩
    by_cases h1 : Int32.ofNat (uS z 24 % 12) < mo
    · rw [if_pos h1]
      simp only [if_pos (show 0 < n ∧ Int32.ofNat (uS z 24 % 12) < mo from ⟨h0, h1⟩)] at H
      refine ⟨_, rfl, _, rfl, _, rfl, ?_⟩
      rw [hf, n_us n_u16 (by omega), n_r16 hn8 h0, n_us n_u20 (by omega), n_r20]
      refine ⟨fun q => absurd ((n_eq (q := 0) (by omega) (by omega)).mp q) (by omega), by decide, ?_⟩
      have hpn : uS z 16 % n < n := Nat.mod_lt _ h0
      rw [hh]
      exact c_set (k := 3) (by omega) w2.1 w2.2.1 hn8 hpn (by omega) (xm_pv_i (H _ _ (ThI_upd s2 e5 w2 (by omega) (by omega) (by omega))))
    · rw [if_neg h1]
      simp only [if_neg (show ¬ (0 < n ∧ Int32.ofNat (uS z 24 % 12) < mo) from fun q => h1 q.2)] at H
      rw [hh]
      exact xm_pv_i (H A2 F2 ⟨A2, F2, rfl, s2, e5, w2⟩)
  · rw [if_neg (show ¬ (0 : Int32) < Int32.ofNat n from fun q => h0 ((n_lt (p := 0) (by omega) (by omega)).mp q))]
    simp only [if_neg (show ¬ (0 < n ∧ Int32.ofNat (uS z 24 % 12) < mo) from fun q => h0 q.1)] at H
    rw [hh]
    exact xm_pv_i (H A2 F2 ⟨A2, F2, rfl, s2, e5, w2⟩)
theorem drawn_loop (hN : NowOk A F tc n y) {lv ld : Nat} {mo x3 : Int32} (hlv : lv ≤ 30) (hld : ld ≤ 40) (hp : x3 = -1 ∨ (x3 = Int32.ofNat p ∧ p < n)) (H : ∀ A' F', Sc A F A' F' → g (dwS tc (A 2) n y mo z x3 p ld lv) (HP A' L F')) : xm_L 7 sX8_drawn kX8_drawn 53 [some (.ref 0), none, none, some (.int x3), some (.int (Int32.ofNat lv)), some (.int (Int32.ofNat ld)), some (.int mo), none, some (.int z), some (.int (0 : Int32)), some (.int (0 : Int32)), none] [] (HP A L F) (xm_pi g) := by
  have hn8 := hN.1.2.2.1
  refine xm_for (n := lv) (Q := fun i h => xm_L 7 sX8_drawn kX8_drawn 53 [some (.ref 0), none, none, some (.int x3), some (.int (Int32.ofNat lv)), some (.int (Int32.ofNat ld)), some (.int mo), none, some (.int (zK z (ld * i))), some (.int (dwS tc (A 2) n y mo z x3 p ld i)), some (.int (Int32.ofNat i)), none] [] h (xm_pi g)) (fun _ h => ∃ A' F', h = HP A' L F' ∧ Sc A F A' F') ?_ ?_ 0 _ (Nat.zero_le _) ?_
  rotate_right
  · exact ⟨A, F, rfl, Sc.rf hN.2.2.2⟩
  · rintro i h hi ⟨A1, F1, rfl, s1⟩ ih
    have hN1 := s1.now hN
    have e2 : A1 2 = A 2 := s1.1 2 (by simp)
    refine xX8_drawn_53 ?_
    rw [if_pos ((n_lt (by omega) (by omega)).mpr hi)]
    refine ⟨_, rfl, _, rfl, c_copyT (by omega) hN1.2.2.1 hN1.2.2.2 ?_⟩
    have st := ThI.start (L := L) hN1
    rw [e2] at st
    rw [e2]
    have key := xm_for (n := ld) (Q := fun m h => xm_L 7 sX8_drawn kX8_drawn 63 [some (.ref 0), none, none, some (.int x3), some (.int (Int32.ofNat lv)), some (.int (Int32.ofNat ld)), some (.int mo), none, some (.int (zK (zK z (ld * i)) m)), some (.int (dwS tc (A 2) n y mo z x3 p ld i + (if x3 = -1 then lfP tc n y mo (zK z (ld * i)) (A 2) m else 0))), some (.int (Int32.ofNat i)), some (.int (Int32.ofNat m))] [] h (xm_pi g)) (fun m h => ThI A1 F1 L (lfC tc n y mo (zK z (ld * i)) (A 2) m) n (yY y m) h) ?_ ?_ 0 _ (Nat.zero_le _) st
    · have e0 : (if x3 = -1 then lfP tc n y mo (zK z (ld * i)) (A 2) 0 else (0 : Int32)) = 0 := by split <;> rfl
      rw [e0, Int32.add_zero] at key
      exact key
    · rintro m h hm hI ih2
      refine xX8_drawn_63 ?_
      rw [if_pos ((n_lt (by omega) (by omega)).mpr hm)]
      refine c_stir (by omega) hN1 hI (fun A2 F2 t2 => ⟨_, rfl, _, rfl, c_yearT (by omega) hN1 t2 (fun A3 F3 t3 p3 _ => ?_)⟩)
      have hi2 := ih2 _ t3
      rw [n_succ]
      by_cases h3 : x3 = -1
      · rw [if_pos h3] at hi2 ⊢
        refine ⟨_, rfl, _, rfl, ?_⟩
        rw [if_pos h3, p3, Int32.add_assoc]
        exact hi2
      · rw [if_neg h3] at hi2 ⊢
        rw [if_neg h3, Int32.add_zero, Int32.add_zero]
        rw [Int32.add_zero] at hi2
        exact hi2
    · rintro h ⟨A3, F3, rfl, s3, e4, w3⟩
      refine xX8_drawn_63 ?_
      rw [if_neg (n_ge (by omega) (by omega) (Nat.le_refl _)), n_succ]
      have hi2 := ih _ ⟨A3, F3, rfl, s1.tr s3⟩
      have e5 : dwS tc (A 2) n y mo z x3 p ld (i + 1) = dwS tc (A 2) n y mo z x3 p ld i + (if x3 = -1 then lfP tc n y mo (zK z (ld * i)) (A 2) ld else lfC tc n y mo (zK z (ld * i)) (A 2) ld (8 + p)) := rfl
      rw [e5, show ld * (i + 1) = ld * i + ld from rfl, ← zK_add] at hi2
      by_cases h3 : x3 = -1
      · rw [if_pos h3] at hi2 ⊢
        rw [if_pos h3, Int32.add_zero]
        exact hi2
      · rw [if_neg h3] at hi2 ⊢
        obtain ⟨hx, hpn⟩ := hp.resolve_left h3
        refine ⟨_, rfl, ?_⟩
        rw [hx] at hi2 ⊢
        rw [if_neg (by rw [← hx]; exact h3), Int32.add_zero]
        refine c_get (k := 1) (by omega) w3.1 w3.2.1 w3.2.2.1 hpn (by omega) ?_
        have e6 : A3 (3 + 1) (8 * 1 + p) = lfC tc n y mo (zK z (ld * i)) (A 2) ld (8 + p) := by show A3 4 (8 + p) = _; rw [e4]
        rw [e6]
        exact hi2
  · rintro h ⟨A1, F1, rfl, s1⟩
    refine xX8_drawn_53 ?_
    rw [if_neg (n_ge (by omega) (by omega) (Nat.le_refl _))]
    exact xm_pi_i (H A1 F1 s1)
theorem q_drawn (hK : 7 < K) (hN : NowOk A F tc n y) {x2 x3 : Int32} (H : okD n x2 x3 → ∀ lv ld p, x2 / 10000 = Int32.ofNat lv → rmI (x2 / 100) 100 = Int32.ofNat ld → lv ≤ 30 → ld ≤ 40 → (x3 = -1 ∨ (x3 = Int32.ofNat p ∧ p < n)) → ∀ A' F', Sc A F A' F' → g (dwS tc (A 2) n y (rmI x2 100) z x3 p ld lv) (HP A' L F')) (H2 : ¬ okD n x2 x3 → g (-1) (HP A L F)) : xm_Call K sX8_drawn 8 [.ref 0, .int z, .int x2, .int x3] (HP A L F) (xm_pi g) := by
  have hn8 := hN.1.2.2.1
  refine eX8_drawn (K := 7) hK ⟨_, rfl⟩ ⟨by decide, by decide, by decide, by decide, ?_⟩
  by_cases a1 : x2 / 10000 < 1
  · rw [if_pos a1]; exact xm_pi_i (H2 (fun q => q.1.1 a1))
  · rw [if_neg a1]
    by_cases a2 : 30 < x2 / 10000
    · rw [if_pos a2]; exact xm_pi_i (H2 (fun q => q.1.2 a2))
    · rw [if_neg a2]
      show (if rmI (x2 / 100) 100 < 1 then _ else (if 40 < rmI (x2 / 100) 100 then _ else (if rmI x2 100 < 0 then _ else (if 12 < rmI x2 100 then _ else _))))
      by_cases a3 : rmI (x2 / 100) 100 < 1
      · rw [if_pos a3]; exact xm_pi_i (H2 (fun q => q.2.1.1 a3))
      · rw [if_neg a3]
        by_cases a4 : 40 < rmI (x2 / 100) 100
        · rw [if_pos a4]; exact xm_pi_i (H2 (fun q => q.2.1.2 a4))
        · rw [if_neg a4, if_neg (d_pos a1).2]
          by_cases a5 : 12 < rmI x2 100
          · rw [if_pos a5]; exact xm_pi_i (H2 (fun q => q.2.2.1 a5))
          · rw [if_neg a5]
            obtain ⟨lv, hlv, e1⟩ := n_ofle (b := 30) (by omega) a1 a2
            obtain ⟨ld, hld, e2⟩ := n_ofle (b := 40) (by omega) a3 a4
            by_cases a6 : x3 = -1
            · rw [if_pos a6]
              show xm_L 7 sX8_drawn kX8_drawn 53 [some (.ref 0), none, none, some (.int x3), some (.int (x2 / 10000)), some (.int (rmI (x2 / 100) 100)), some (.int (rmI x2 100)), none, some (.int z), some (.int (0 : Int32)), some (.int (0 : Int32)), none] [] _ _
              rw [e1, e2]
              exact drawn_loop (p := 0) hN hlv hld (Or.inl a6) (H ⟨⟨a1, a2⟩, ⟨a3, a4⟩, a5, Or.inl a6⟩ lv ld 0 e1 e2 hlv hld (Or.inl a6))
            · rw [if_neg a6]
              refine ⟨_, rfl, c_has (n := n) (by omega) hN.1.1 hN.1.2.1 hn8 (fun p hp he => ?_) (fun q => ?_)⟩
              · rw [if_neg (by decide)]
                show xm_L 7 sX8_drawn kX8_drawn 53 [some (.ref 0), none, none, some (.int x3), some (.int (x2 / 10000)), some (.int (rmI (x2 / 100) 100)), some (.int (rmI x2 100)), none, some (.int z), some (.int (0 : Int32)), some (.int (0 : Int32)), none] [] _ _
                rw [e1, e2]
                exact drawn_loop (p := p) hN hlv hld (Or.inr ⟨he, hp⟩) (H ⟨⟨a1, a2⟩, ⟨a3, a4⟩, a5, Or.inr ⟨by rw [he]; exact xs_nn (by omega), by rw [he]; exact (n_lt (by omega) (by omega)).mpr hp⟩⟩ lv ld p e1 e2 hlv hld (Or.inr ⟨he, hp⟩))
              · rw [if_pos rfl]
                refine xm_pi_i (H2 (fun ok => ?_))
                rcases ok.2.2.2 with b | ⟨b1, b2⟩
                · exact a6 b
                · exact q.elim b1 (fun z => z b2)
end DRW
