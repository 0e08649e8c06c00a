section QRA
variable {A : Nat → Nat → Int32} {L : Nat → Nat → Int64} {F : Nat → Nat → Int32} {g : Int32 → xm_H → Prop} {gv : xm_H → Prop} {w n p k j y e K : Nat} {x v z : Int32} {h : xm_H} {tc : (Nat → Int32) → Int32}
def Zr (f : Nat → Int32) : Prop := ∀ k, 67 ≤ k → f k = 0
theorem Zr.up {f : Nat → Int32} (h : Zr f) (hk : k < 67) : Zr (upd f k v) := fun q hq => by rw [p_ne (by omega)]; exact h q hq
theorem yrC_Zr {c s : Nat → Int32} (h : Zr c) : ∀ m, m ≤ 8 → Zr (yrC c y s m)
  | 0, _ => h
  | m + 1, hm => ((yrC_Zr h m (by omega)).up (by omega)).up (by omega)
theorem yrS_Zr {c : Nat → Int32} (h : Zr c) (hn : n ≤ 8) : Zr (yrS tc c n y) := (yrC_Zr h n hn).up (by omega)
/-- the world that is now can be reckoned, the text stands -/
def NowOk (A : Nat → Nat → Int32) (F : Nat → Nat → Int32) (tc : (Nat → Int32) → Int32) (n y : Nat) : Prop := WOk A F 1 n y ∧ TXok A F tc ∧ Zr (A 2) ∧ Zr (A 4)
/-- only what is tried out on has changed -/
def Sc (A F A' F' : Nat → Nat → Int32) : Prop := Ag [4, 8, 9, 10, 11, 12, 24, 26, 27] A A' ∧ Ag [3, 5, 25] F F' ∧ Zr (A' 4)
theorem Sc.tr {B G A' F' : Nat → Nat → Int32} (h1 : Sc A F B G) (h2 : Sc B G A' F') : Sc A F A' F' := ⟨Ag.tr h1.1 h2.1, Ag.tr h1.2.1 h2.2.1, h2.2.2⟩
theorem Sc.rf (h : Zr (A 4)) : Sc A F A F := ⟨Ag.rf, Ag.rf, h⟩
theorem Sc.now {A' F' : Nat → Nat → Int32} (h : Sc A F A' F') (hN : NowOk A F tc n y) : NowOk A' F' tc n y := by
  obtain ⟨h1, h2, h3, h4⟩ := hN
  have e2 : A' 2 = A 2 := h.1 2 (by simp)
  have f1 : F' 1 = F 1 := h.2.1 1 (by simp)
  obtain ⟨a1, a2, a3, a4, a5, a6⟩ := h1
  exact ⟨⟨a1, by rw [f1]; exact a2, a3, a4, by show A' 2 64 = _; rw [e2]; exact a5, fun p hp => by show A' 2 (40 + p) = 0 ∨ A' 2 (40 + p) = 1; rw [e2]; exact a6 p hp⟩, h2.to (h.1 7 (by simp)) (h.2.1 6 (by simp)), by rw [e2]; exact h3, h.2.2⟩
theorem c_copyT (hK : 0 < K) (h2 : Zr (A 2)) (h4 : Zr (A 4)) (H : gv (HP (va_up A 4 (A 2)) L (va_up F 3 (va_up (F 3) 1 (F 1 1))))) : xm_Call K sX7_copy 7 [.ref 3, .ref 1] (HP A L F) (xm_pv gv) := by
  refine eX7_copy (K := 0) hK (w_obj (Or.inr (Or.inl rfl))) ⟨_, rfl, _, w_cells (Or.inr (Or.inl rfl)), _, w_cpI (Or.inl rfl), _, w_people (Or.inl rfl), _, w_put (Or.inr (Or.inl rfl)), xm_pv_i ?_⟩
  have : va_cpy (A 2) (A 4) 0 0 67 = A 2 := by
    funext k
    unfold va_cpy
    split
    · congr 1; omega
    · next hc => rw [h4 k (by omega), h2 k (by omega)]
  rw [show (3 : Nat) + 1 = 4 from rfl, this]
  exact H
/-- what it is worth to p -/
def wrt (tc : (Nat → Int32) → Int32) (c : Nat → Int32) (n y p : Nat) : Int32 := gainS c y p (c (24 + p)) - sSh tc c n y (earsOf c n) p
def wrtB (tc : (Nat → Int32) → Int32) (c : Nat → Int32) (n y p : Nat) (x : Int32) : Int32 := wrt tc (upd c (24 + p) x) n y p
theorem wok_th {c : Nat → Int32} (hN : NowOk A F tc n y) (h64 : c 64 = A 2 64) (h40 : ∀ p, p < n → c (40 + p) = A 2 (40 + p)) : WOk (va_up A 4 c) (va_up F 3 (va_up (F 3) 1 (F 1 1))) 3 n y := by
  obtain ⟨⟨a1, a2, a3, a4, a5, a6⟩, h2, h3, h4⟩ := hN
  refine ⟨Or.inr (Or.inl rfl), by rw [u_eq, u_eq]; exact a2, a3, a4, by show va_up A 4 c 4 64 = _; rw [u_eq, h64]; exact a5, fun p hp => ?_⟩
  show va_up A 4 c 4 (40 + p) = 0 ∨ va_up A 4 c 4 (40 + p) = 1
  rw [u_eq, h40 p hp]; exact a6 p hp
theorem up2 {f f' : Nat → Int32} {c : Nat} : va_up (va_up A c f) c f' = va_up A c f' := by
  funext k
  by_cases h : k = c
  · subst h; rw [u_eq, u_eq]
  · rw [u_ne h, u_ne h, u_ne h]
theorem c_worthBy (hK : 7 < K) (hN : NowOk A F tc n y) (hp : p < n) (H : ∀ A' F', Sc A F A' F' → g (wrtB tc (A 2) n y p x) (HP A' L F')) : xm_Call K sX8_worthBy 8 [.ref 0, .int (Int32.ofNat p), .int x] (HP A L F) (xm_pi g) := by
  have hn8 := hN.1.2.2.1
  refine eX8_worthBy (K := 7) hK ⟨_, rfl⟩ ⟨_, rfl, _, rfl, c_copyT (by omega) hN.2.2.1 hN.2.2.2 ⟨_, rfl, ?_⟩⟩
  have w0 := wok_th (c := A 2) hN rfl (fun _ _ => rfl)
  refine c_set (k := 3) (by omega) w0.1 w0.2.1 hn8 hp (by omega) ⟨_, rfl, _, rfl, ?_⟩
  rw [show (3 : Nat) + 1 = 4 from rfl, u_eq, up2]
  have w1 := wok_th (c := upd (A 2) (8 * 3 + p) x) hN (p_ne (by omega)) (fun q hq => p_ne (by omega))
  refine c_reckon (tc := tc) (by omega) w1 (hN.2.1.to (u_ne (by omega)) (u_ne (by omega))) (fun A1 F1 a1 a2 a3 a4 => ⟨_, rfl, _, rfl, ?_⟩)
  rw [show (3 : Nat) + 1 = 4 from rfl, u_eq] at a4
  have e4 : A1 4 = upd (A 2) (8 * 3 + p) x := by rw [a1 4 (by simp), u_eq]
  have w2 := w1.to a1 a2 (by simp) (by simp)
  refine c_worthOf (n := n) (y := y) (by omega) w2 hp (xm_pi_i ?_)
  have hres : gainS (A1 (3 + 1)) y p (A1 (3 + 1) (24 + p)) - A1 12 p = wrtB tc (A 2) n y p x := by
    rw [show (3 : Nat) + 1 = 4 from rfl, e4, a4.2.2.1 p (by omega)]; rfl
  rw [hres]
  exact H A1 F1 ⟨Ag.tr (Ag.up Ag.rf (by simp)) (a1.mono (fun k hk => by simp at hk ⊢; omega)), Ag.tr (Ag.up Ag.rf (by simp)) (a2.mono (fun k hk => by simp at hk ⊢; omega)), by rw [e4]; exact hN.2.2.1.up (by omega)⟩
theorem c_reckonN (hK : 6 < K) (hN : NowOk A F tc n y) (H : ∀ A' F', Sc A F A' F' → RkR tc (A 2) n y (earsOf (A 2) n) A' F' → gv (HP A' L F')) : xm_Call K sX4_reckon 4 [.ref 5, .ref 1] (HP A L F) (xm_pv gv) :=
  c_reckon (tc := tc) hK hN.1 hN.2.1 (fun A1 F1 a1 a2 _ a4 => H A1 F1 ⟨a1.mono (fun k hk => by simp at hk ⊢; omega), a2.mono (fun k hk => by simp at hk ⊢; omega), by rw [a1 4 (by simp)]; exact hN.2.2.2⟩ a4)
/-! the class's answers -/
theorem q_counts (hK : 5 < K) (hN : NowOk A F tc n y) (H : ∀ p, p < n → x = Int32.ofNat p → ∀ A' F', Sc A F A' F' → g (cntW tc (A 2) n y p) (HP A' L F')) (H2 : (x < 0 ∨ ¬ x < Int32.ofNat n) → g (-1) (HP A L F)) : xm_Call K sX8_counts 8 [.ref 0, .int x] (HP A L F) (xm_pi g) := by
  have hn8 := hN.1.2.2.1
  refine eX8_counts (K := 5) hK ⟨_, rfl⟩ ⟨_, rfl, c_has (n := n) (by omega) hN.1.1 hN.1.2.1 hn8 (fun p hp he => ?_) (fun q => ?_)⟩
  · rw [if_neg (by decide)]
    refine ⟨_, rfl, _, rfl, c_look (by omega) hN.1.1 hN.1.2.1 hn8 (fun F1 f1 f2 f3 f4 => ⟨_, rfl, _, rfl, ?_⟩)⟩
    subst he
    refine c_countsOf (tc := tc) (y := y) (by omega) hN.1.1 (by rw [f1 1 (by simp)]; exact hN.1.2.1) hn8 hp hN.1.2.2.2.1 hN.1.2.2.2.2.1 (hN.2.1.to rfl (f1 6 (by simp))) f3 f4 (fun A2 a2 => xm_pi_i (H p hp rfl A2 F1 ⟨a2.mono (fun k hk => by simp at hk ⊢; omega), f1.mono (fun k hk => by simp at hk ⊢; omega), by rw [a2 4 (by simp)]; exact hN.2.2.2⟩))
  · rw [if_pos rfl]; exact xm_pi_i (H2 q)
theorem q_bill (hK : 7 < K) (hN : NowOk A F tc n y) (H0 : x = 0 → ∀ A' F', Sc A F A' F' → g (whl (A 2) y) (HP A' L F')) (H1 : x = 1 → ∀ A' F', Sc A F A' F' → g (whl (A 2) y - sPaid tc (A 2) n y (earsOf (A 2) n)) (HP A' L F')) (H2 : ¬ x = 0 → ¬ x = 1 → g (-1) (HP A L F)) : xm_Call K sX8_bill 8 [.ref 0, .int x] (HP A L F) (xm_pi g) := by
  refine eX8_bill (K := 7) hK ⟨_, rfl⟩ ?_
  by_cases h0 : x = 0
  · rw [if_pos h0]
    refine ⟨_, rfl, _, rfl, c_reckonN (by omega) hN (fun A1 F1 a1 a2 => ?_)⟩
    rw [if_pos h0]
    refine ⟨_, rfl, _, rfl, xm_pi_i ?_⟩
    rw [a2.2.2.2.1]; exact H0 h0 A1 F1 a1
  · rw [if_neg h0]
    by_cases h1 : x = 1
    · rw [if_pos h1]
      refine ⟨_, rfl, _, rfl, c_reckonN (by omega) hN (fun A1 F1 a1 a2 => ?_)⟩
      rw [if_neg h0]
      refine ⟨_, rfl, _, rfl, _, rfl, _, rfl, xm_pi_i ?_⟩
      rw [a2.2.2.2.1, a2.2.2.2.2.2]; exact H1 h1 A1 F1 a1
    · rw [if_neg h1]; exact xm_pi_i (H2 h0 h1)
theorem q_share (hK : 7 < K) (hN : NowOk A F tc n y) (H : ∀ p, p < n → x = Int32.ofNat p → ∀ A' F', Sc A F A' F' → g (sSh tc (A 2) n y (earsOf (A 2) n) p) (HP A' L F')) (H2 : (x < 0 ∨ ¬ x < Int32.ofNat n) → g (-1) (HP A L F)) : xm_Call K sX8_share 8 [.ref 0, .int x] (HP A L F) (xm_pi g) := by
  have hn8 := hN.1.2.2.1
  refine eX8_share (K := 7) hK ⟨_, rfl⟩ ⟨_, rfl, c_has (n := n) (by omega) hN.1.1 hN.1.2.1 hn8 (fun p hp he => ?_) (fun q => ?_)⟩
  · rw [if_neg (by decide)]
    refine ⟨_, rfl, _, rfl, c_reckonN (by omega) hN (fun A1 F1 a1 a2 => ⟨_, rfl, _, rfl, _, by rw [he]; exact ln_12 (by omega), xm_pi_i ?_⟩)⟩
    rw [a2.2.2.1 p (by omega)]; exact H p hp he A1 F1 a1
  · rw [if_pos rfl]; exact xm_pi_i (H2 q)
theorem q_worth (hK : 7 < K) (hN : NowOk A F tc n y) (H : ∀ p, p < n → x = Int32.ofNat p → ∀ A' F', Sc A F A' F' → g (wrt tc (A 2) n y p) (HP A' L F')) (H2 : (x < 0 ∨ ¬ x < Int32.ofNat n) → g (-2000000000) (HP A L F)) : xm_Call K sX8_worth 8 [.ref 0, .int x] (HP A L F) (xm_pi g) := by
  have hn8 := hN.1.2.2.1
  refine eX8_worth (K := 7) hK ⟨_, rfl⟩ ⟨_, rfl, c_has (n := n) (by omega) hN.1.1 hN.1.2.1 hn8 (fun p hp he => ?_) (fun q => ?_)⟩
  · rw [if_neg (by decide)]
    refine ⟨_, rfl, _, rfl, c_reckonN (by omega) hN (fun A1 F1 a1 a2 => ⟨_, rfl, _, rfl, ?_⟩)⟩
    subst he
    have hN1 := a1.now hN
    refine c_worthOf (n := n) (y := y) (by omega) hN1.1 hp (xm_pi_i ?_)
    have e2 : A1 (1 + 1) = A 2 := a1.1 2 (by simp)
    have : gainS (A1 (1 + 1)) y p (A1 (1 + 1) (24 + p)) - A1 12 p = wrt tc (A 2) n y p := by rw [e2, a2.2.2.1 p (by omega)]; rfl
    rw [this]; exact H p hp rfl A1 F1 a1
  · rw [if_pos rfl]; exact xm_pi_i (H2 q)
end QRA
