section DDH
variable {A : Nat → Nat → Int32} {L : Nat → Nat → Int64} {F : Nat → Nat → Int32} {gv : xm_H → Prop} {w n p k j y e m r o a d u K nb km : Nat} {x x1 x2 x3 v z : Int32} {h : xm_H} {tc : (Nat → Int32) → Int32} {c : Nat → Int32}
theorem n4 (p : Nat) : (4 : Int32) * Int32.ofNat p = Int32.ofNat (4 * p) := n_mul 4 p
theorem n42 (p : Nat) : Int32.ofNat p + 2 = Int32.ofNat (p + 2) := n_add p 2
theorem n43 (p : Nat) : Int32.ofNat p + 3 = Int32.ofNat (p + 3) := n_add p 3
theorem q_image {g : Int32 → xm_H → Prop} (hK : 1 < K) (H : ∀ A' F', Ag [22, 23] A A' → Ag [0, 21] F F' → (∀ k, k < 67 → A' 22 k = A 2 k) → (∀ j, j < 6 → A' 23 j = A 20 j) → F' 0 8 = 1 → F' 21 1 = F 1 1 → g (A 20 2) (HP A' L F')) : xm_Call K sX8_image 8 [.ref 0] (HP A L F) (xm_pi g) := by
  refine eX8_image (K := 1) hK ⟨_, rfl⟩ ⟨_, rfl, _, rfl, c_copy (w := 21) (by omega) (Or.inr rfl) (fun c hc => ?_)⟩
  refine ⟨_, rfl, _, rfl, HP (va_up (va_up A 22 c) 23 (va_cpy (A 20) (A 23) 0 0 6)) L _, rfl, _, p_0_8, _, rfl, _, ln_20 (j := 2) (by omega), xm_pi_i ?_⟩
  refine H _ _ (Ag.up (Ag.up Ag.rf (by simp)) (by simp)) (Ag.up (Ag.up Ag.rf (by simp)) (by simp)) hc (fun j hj => ?_) rfl rfl
  show va_cpy (A 20) (A 23) 0 0 6 j = A 20 j
  unfold va_cpy
  rw [if_pos ⟨by omega, by omega⟩]
  congr 1
  omega
theorem led_cp {S : Nat} {f t : Nat → Int32} (h : ∀ q, q < p → t q = f q) (hq : k < p + 1) : upd t p (f p) k = f k := by
  by_cases e : k = p
  · subst e; rw [p_eq]
  · rw [p_ne e]; exact h k (by omega)
def keR (A A' : Nat → Nat → Int32) (p : Nat) : Prop := ∀ q, q < p → A' 73 (4 * q) = A 46 q ∧ A' 73 (4 * q + 1) = A 47 q ∧ A' 73 (4 * q + 2) = A 48 q ∧ A' 73 (4 * q + 3) = A 50 q
theorem r_image {g : Int32 → xm_H → Prop} (hK : 1 < K) (c2 : F 44 1 = Int32.ofNat n) (c3 : n ≤ 8) (H : ∀ A' F', Ag [73, 74] A A' → Ag [44] F F' → (∀ k, k ≠ 45 → k ≠ 46 → k ≠ 47 → F' 44 k = F 44 k) → F' 44 45 = 1 → F' 44 46 = Int32.ofNat n → F' 44 47 = A 53 0 → keR A A' n → (∀ j, j < 6 → A' 74 j = A 72 j) → g (A 72 2) (HP A' L F')) : xm_Call K sX9_image 9 [.ref 44] (HP A L F) (xm_pi g) := by
  refine eX9_image (K := 1) hK ⟨_, rfl⟩ ⟨_, p_44_45, _, rfl, _, p_44_46, _, rfl, _, ln_53 (j := 0) (by omega), _, p_44_47, ?_⟩
  generalize hG : va_up (va_up (va_up F 44 (va_up (F 44) 45 1)) 44 _) 44 _ = G
  have g1 : Ag [44] F G := by rw [← hG]; exact Ag.up (Ag.up (Ag.up Ag.rf (by simp)) (by simp)) (by simp)
  have g2 : ∀ k, k ≠ 45 → k ≠ 46 → k ≠ 47 → G 44 k = F 44 k := fun k h1 h2 h3 => by rw [← hG, u_eq, u_ne h3, u_eq, u_ne h2, u_eq, u_ne h1]
  have g5 : G 44 45 = 1 := by rw [← hG]; rfl
  have g6 : G 44 46 = Int32.ofNat n := by rw [← hG]; exact c2
  have g7 : G 44 47 = A 53 0 := by rw [← hG]; rfl
  clear hG
  refine xm_for (n := n) (Q := fun p h => xm_L 1 sX9_image kX9_image 15 [some (.ref 44), some (.int (Int32.ofNat p))] [] h (xm_pi g)) (fun p h => ∃ A', h = HP A' L G ∧ Ag [73] A A' ∧ keR A A' p) ?_ ?_ 0 _ (Nat.zero_le _) ⟨A, rfl, Ag.rf, fun q hq => absurd hq (by omega)⟩
  · rintro p h hp ⟨A1, rfl, h1, h2⟩ ih
    refine xX9_image_15 ⟨_, rfl, ?_⟩
    rw [g2 1 (by omega) (by omega) (by omega), c2, if_pos ((n_lt (by omega) (by omega)).mpr hp), n4, n_succ p, n_succ (4 * p), n42, n43]
    refine ⟨_, rfl, _, rfl, _, ln_46 (by omega), _, sn_73 (by omega), _, rfl, _, rfl, _, ln_47 (by omega), _, sn_73 (by omega), _, rfl, _, rfl, _, ln_48 (by omega), _, sn_73 (by omega), _, rfl, _, rfl, _, ln_50 (by omega), _, sn_73 (by omega), ih _ ⟨_, rfl, Ag.up (Ag.up (Ag.up (Ag.up h1 (by simp)) (by simp)) (by simp)) (by simp), fun q hq => ?_⟩⟩
    show upd (upd (upd (upd (A1 73) (4 * p) (A1 46 p)) (4 * p + 1) (A1 47 p)) (4 * p + 2) (A1 48 p)) (4 * p + 3) (A1 50 p) (4 * q) = A 46 q ∧ upd (upd (upd (upd (A1 73) (4 * p) (A1 46 p)) (4 * p + 1) (A1 47 p)) (4 * p + 2) (A1 48 p)) (4 * p + 3) (A1 50 p) (4 * q + 1) = A 47 q ∧ upd (upd (upd (upd (A1 73) (4 * p) (A1 46 p)) (4 * p + 1) (A1 47 p)) (4 * p + 2) (A1 48 p)) (4 * p + 3) (A1 50 p) (4 * q + 2) = A 48 q ∧ upd (upd (upd (upd (A1 73) (4 * p) (A1 46 p)) (4 * p + 1) (A1 47 p)) (4 * p + 2) (A1 48 p)) (4 * p + 3) (A1 50 p) (4 * q + 3) = A 50 q
    rw [h1 46 (by simp), h1 47 (by simp), h1 48 (by simp), h1 50 (by simp)]
    by_cases e : q = p
    · subst e
      refine ⟨?_, ?_, ?_, ?_⟩
      · rw [p_ne (by omega), p_ne (by omega), p_ne (by omega), p_eq]
      · rw [p_ne (by omega), p_ne (by omega), p_eq]
      · rw [p_ne (by omega), p_eq]
      · rw [p_eq]
    · obtain ⟨b1, b2, b3, b4⟩ := h2 q (by omega)
      refine ⟨?_, ?_, ?_, ?_⟩
      · rw [p_ne (by omega), p_ne (by omega), p_ne (by omega), p_ne (by omega)]; exact b1
      · rw [p_ne (by omega), p_ne (by omega), p_ne (by omega), p_ne (by omega)]; exact b2
      · rw [p_ne (by omega), p_ne (by omega), p_ne (by omega), p_ne (by omega)]; exact b3
      · rw [p_ne (by omega), p_ne (by omega), p_ne (by omega), p_ne (by omega)]; exact b4
  · rintro h ⟨A1, rfl, h1, h2⟩
    refine xX9_image_15 ⟨_, rfl, ?_⟩
    rw [g2 1 (by omega) (by omega) (by omega), c2, if_neg (n_ge (by omega) (by omega) (Nat.le_refl _))]
    refine xm_for (n := 6) (Q := fun p h => xm_L 1 sX9_image kX9_image 69 [some (.ref 44), some (.int (Int32.ofNat p))] [] h (xm_pi g)) (fun p h => ∃ A', h = HP A' L G ∧ Ag [74] A1 A' ∧ ∀ q, q < p → A' 74 q = A 72 q) ?_ ?_ 0 _ (Nat.zero_le _) ⟨A1, rfl, Ag.rf, fun q hq => absurd hq (by omega)⟩
    · rintro p h hp ⟨A2, rfl, h3, h4⟩ ih
      refine xX9_image_69 ?_
      rw [if_pos (show Int32.ofNat p < (6 : Int32) from (n_lt (q := 6) (by omega) (by omega)).mpr hp), n_succ]
      refine ⟨_, rfl, _, rfl, _, ln_72 hp, _, sn_74 hp, ih _ ⟨_, rfl, Ag.up h3 (by simp), fun q hq => ?_⟩⟩
      show upd (A2 74) p (A2 72 p) q = _
      rw [h3 72 (by simp), h1 72 (by simp)]
      exact led_cp (S := 0) h4 hq
    · rintro h ⟨A2, rfl, h3, h4⟩
      refine xX9_image_69 ?_
      rw [if_neg (by decide)]
      refine ⟨_, rfl, _, ln_72 (j := 2) (by omega), xm_pi_i ?_⟩
      rw [h3 72 (by simp), h1 72 (by simp)]
      refine H _ _ (Ag.tr (h1.mono (fun k hk => by simp at hk ⊢; omega)) (h3.mono (fun k hk => by simp at hk ⊢; omega))) g1 g2 g5 g6 g7 (fun q hq => ?_) h4
      rw [h3 73 (by simp)]; exact h2 q hq
theorem st_image {g : Int32 → Int32 → xm_H → Prop} (hK : 40 ≤ K) (hI : INV A L F n nb tc) (H : Fin2 g) : xm_Call K sX8_image 8 [.ref 0] (HP A L F) (xm_pi fun c h => xm_Call K sX9_image 9 [.ref 44] h (xm_pi fun c' h' => g c c' h')) := by
  have hI0 := hI
  obtain ⟨⟨hB, -, -⟩, ⟨hC, hL, -⟩, -⟩ := hI0
  obtain ⟨⟨c1, c2, c3⟩, -, b5, -, b7⟩ := hB
  refine q_image (by omega) (fun A1 F1 a1 f1 e1 e2 e3 e4 => ?_)
  refine r_image (n := n) (by omega) (by rw [f1 44 (by simp)]; exact c2) c3 (fun A2 F2 a2 f2 f4 d1 d2 d3 d4 d5 => ?_)
  rw [a1 72 (by simp), ← hL 2 (by omega)]
  refine H _ _ _ _ n nb tc ?_
  have eA : ∀ k, k ∉ [22, 23, 73, 74] → A2 k = A k := fun k hk => by
    simp at hk
    exact (a2 k (by simp; omega)).trans (a1 k (by simp; omega))
  have eF : ∀ k, k ≠ 0 → k ≠ 21 → k ≠ 44 → F2 k = F k := fun k h1 h2 h3 => (f2 k (by simp; omega)).trans (f1 k (by simp; omega))
  have e44 : ∀ k, k ≠ 45 → k ≠ 46 → k ≠ 47 → F2 44 k = F 44 k := fun k h1 h2 h3 => by rw [f4 k h1 h2 h3, f1 44 (by simp)]
  have hB := hI.1.1
  refine hI.re (n' := n) (hB.to (eA 2 (by simp)) (by rw [eA 4 (by simp)]; exact hB.2.1.2.1) (fun p h1 h2 => ?_) (fun k h1 h2 => eA k (by simp; omega)) ⟨by rw [eF 1 (by omega) (by omega) (by omega)], e44 1 (by omega) (by omega) (by omega)⟩) (fun k hk => eA k (by simp at hk ⊢; omega)) (fun k hk => eF k (by simp at hk; omega) (by simp at hk; omega) (by simp at hk; omega)) (fun k hk => e44 k (by simp at hk; omega) (by simp at hk; omega) (by simp at hk; omega)) (hC.to ⟨eA 17 (by simp), eA 18 (by simp), eA 19 (by simp), eA 54 (by simp), eA 55 (by simp), eA 56 (by simp), eA 57 (by simp)⟩ ⟨by rw [eF 16 (by omega) (by omega) (by omega)], by rw [eF 16 (by omega) (by omega) (by omega)], e44 11 (by omega) (by omega) (by omega), e44 12 (by omega) (by omega) (by omega)⟩) (hL.to ⟨eA 20 (by simp), eA 72 (by simp)⟩) (Or.inr ⟨by rw [f2 0 (by simp)]; exact e3, d1, n, Nat.le_refl _, ?_, d2, ?_, ?_, fun p hp => ?_, fun j hj => ?_⟩)
  · rw [eA 66 (by simp), eA 67 (by simp), eA 68 (by simp), eA 69 (by simp)]
    exact hB.2.1.2.2 p h1 h2
  · rw [f2 21 (by simp), e4]; exact c1
  · rw [d3, a1 53 (by simp), a2 22 (by simp), e1 64 (by omega)]
    exact b7 8 0 (Or.inr ⟨by omega, by omega, rfl⟩)
  · rw [a2 22 (by simp), e1 64 (by omega)]
    exact b5 8 0 (Or.inr (Or.inr ⟨by omega, by omega, rfl⟩))
  · obtain ⟨k1, k2, k3, k4⟩ := d4 p hp
    rw [k1, k2, k3, k4, a2 22 (by simp), e1 _ (by omega), e1 _ (by omega), e1 _ (by omega), e1 _ (by omega), a1 46 (by simp), a1 47 (by simp), a1 48 (by simp), a1 50 (by simp)]
    exact ⟨⟨b7 1 p (Or.inl ⟨by omega, by omega⟩), b7 2 p (Or.inl ⟨by omega, by omega⟩), b7 3 p (Or.inl ⟨by omega, by omega⟩), b7 5 p (Or.inl ⟨by omega, by omega⟩)⟩, b5 1 p (Or.inl ⟨by omega, hp⟩), b5 2 p (Or.inl ⟨by omega, hp⟩), b5 3 p (Or.inl ⟨by omega, hp⟩), b5 5 p (Or.inl ⟨by omega, hp⟩)⟩
  · rw [a2 23 (by simp), e2 j hj, d5 j hj, a1 72 (by simp)]
    exact hL j hj
/-! back -/
abbrev inB (p k : Nat) : Prop := (8 ≤ k ∧ k < 8 + p) ∨ (16 ≤ k ∧ k < 16 + p) ∨ (24 ≤ k ∧ k < 24 + p) ∨ (40 ≤ k ∧ k < 40 + p)
def bkS (c d : Nat → Int32) (p k : Nat) : Int32 := if inB p k then d k else c k
theorem bk_step {c d f : Nat → Int32} (hp : p < 8) (hf : ∀ k, f k = bkS c d p k) : ∀ k, upd (upd (upd (upd f (8 + p) (d (8 + p))) (16 + p) (d (16 + p))) (24 + p) (d (24 + p))) (40 + p) (d (40 + p)) k = bkS c d (p + 1) k := fun k => by
  unfold bkS
  by_cases h1 : k = 40 + p
  · subst h1; rw [p_eq, if_pos (by unfold inB; omega)]
  rw [p_ne h1]
  by_cases h2 : k = 24 + p
  · subst h2; rw [p_eq, if_pos (by unfold inB; omega)]
  rw [p_ne h2]
  by_cases h3 : k = 16 + p
  · subst h3; rw [p_eq, if_pos (by unfold inB; omega)]
  rw [p_ne h3]
  by_cases h4 : k = 8 + p
  · subst h4; rw [p_eq, if_pos (by unfold inB; omega)]
  rw [p_ne h4, hf k]
  unfold bkS
  by_cases hi : inB p k
  · rw [if_pos hi, if_pos (by unfold inB at *; omega)]
  · rw [if_neg hi, if_neg (by unfold inB at *; omega)]
theorem q_back {g : Int32 → xm_H → Prop} (hK : 2 < K) (i0 : F 0 8 = 1) (c1 : F 1 1 = Int32.ofNat n) (c3 : n ≤ 8) (i1 : F 21 1 = Int32.ofNat km) (ik : km ≤ n) (H : ∀ A', Ag [2, 20] A A' → (∀ k, A' 2 k = upd (bkS (A 2) (A 22) km) 64 (A 22 64) k) → (∀ j, j < 6 → A' 20 j = A 23 j) → g (A 23 2) (HP A' L F)) : xm_Call K sX8_back 8 [.ref 0] (HP A L F) (xm_pi g) := by
  have hw : isW 1 := Or.inl rfl
  have hw2 : isW 21 := Or.inr (Or.inr rfl)
  refine eX8_back (K := 2) hK ⟨_, rfl⟩ ⟨_, rfl, ?_⟩
  rw [i0, if_neg (by decide)]
  refine xm_for (n := km) (Q := fun p h => xm_L 2 sX8_back kX8_back 7 [some (.ref 0), some (.int (Int32.ofNat p))] [] h (xm_pi g)) (fun p h => ∃ A', h = HP A' L F ∧ Ag [2] A A' ∧ ∀ k, A' 2 k = bkS (A 2) (A 22) p k) ?_ ?_ 0 _ (Nat.zero_le _) ⟨A, rfl, Ag.rf, fun k => ?_⟩
  · rintro p h hp ⟨A1, rfl, h1, h2⟩ ih
    refine xX8_back_7 ⟨_, rfl, _, rfl, ?_⟩
    rw [i1, if_pos ((n_lt (by omega) (by omega)).mpr hp), n_succ]
    refine ⟨_, rfl, _, rfl, c_get (k := 1) (by omega) hw2 i1 (by omega) hp (by omega) (c_set (k := 1) (by omega) hw c1 c3 (by omega) (by omega) ⟨_, rfl, _, rfl, c_get (k := 2) (by omega) hw2 i1 (by omega) hp (by omega) (c_set (k := 2) (by omega) hw c1 c3 (by omega) (by omega) ⟨_, rfl, _, rfl, c_get (k := 3) (by omega) hw2 i1 (by omega) hp (by omega) (c_set (k := 3) (by omega) hw c1 c3 (by omega) (by omega) ⟨_, rfl, _, rfl, c_get (k := 5) (by omega) hw2 i1 (by omega) hp (by omega) (c_set (k := 5) (by omega) hw c1 c3 (by omega) (by omega) (ih _ ⟨_, rfl, Ag.up (Ag.up (Ag.up (Ag.up h1 (by simp)) (by simp)) (by simp)) (by simp), fun k => ?_⟩))⟩)⟩)⟩)⟩
    show upd (upd (upd (upd (A1 2) (8 + p) (A1 22 (8 + p))) (16 + p) (A1 22 (16 + p))) (24 + p) (A1 22 (24 + p))) (40 + p) (A1 22 (40 + p)) k = _
    rw [h1 22 (by simp)]
    exact bk_step (by omega) h2 k
  · rintro h ⟨A1, rfl, h1, h2⟩
    refine xX8_back_7 ⟨_, rfl, _, rfl, ?_⟩
    rw [i1, if_neg (n_ge (by omega) (by omega) (Nat.le_refl _))]
    refine ⟨_, rfl, _, rfl, c_get_b (k := 8) (by omega) hw2 (by omega) (by omega) (c_set_b (k := 8) (by omega) hw (by omega) (by omega) ⟨_, rfl, _, rfl, HP (va_up (va_up A1 2 (upd (A1 2) 64 (A1 22 64))) 20 (va_cpy (A1 23) (A1 20) 0 0 6)) L F, rfl, _, rfl, _, ln_20 (j := 2) (by omega), xm_pi_i ?_⟩)⟩
    have e23 : A1 23 = A 23 := h1 23 (by simp)
    have cp : ∀ j, j < 6 → va_cpy (A1 23) (A1 20) 0 0 6 j = A 23 j := fun j hj => by
      unfold va_cpy
      rw [if_pos ⟨by omega, by omega⟩, e23]
      congr 1
      omega
    rw [show va_up (va_up A1 2 (upd (A1 2) 64 (A1 22 64))) 20 (va_cpy (A1 23) (A1 20) 0 0 6) 20 2 = A 23 2 from cp 2 (by omega)]
    refine H _ (Ag.up (Ag.up (h1.mono (fun k hk => by simp at hk ⊢; omega)) (by simp)) (by simp)) (fun k => ?_) cp
    show upd (A1 2) 64 (A1 22 64) k = _
    rw [h1 22 (by simp), show A1 2 = bkS (A 2) (A 22) km from funext h2]
  · unfold bkS; rw [if_neg (by unfold inB; omega)]
theorem r_back {g : Int32 → xm_H → Prop} (hK : 1 < K) (i0 : F 44 45 = 1) (i1 : F 44 46 = Int32.ofNat km) (ik : km ≤ 8) (H : ∀ A', Ag [46, 47, 48, 50, 53, 72] A A' → (∀ q, A' 46 q = (if q < km then A 73 (4 * q) else A 46 q)) → (∀ q, A' 47 q = (if q < km then A 73 (4 * q + 1) else A 47 q)) → (∀ q, A' 48 q = (if q < km then A 73 (4 * q + 2) else A 48 q)) → (∀ q, A' 50 q = (if q < km then A 73 (4 * q + 3) else A 50 q)) → A' 53 = upd (A 53) 0 (F 44 47) → (∀ j, j < 6 → A' 72 j = A 74 j) → g (A 74 2) (HP A' L F)) : xm_Call K sX9_back 9 [.ref 44] (HP A L F) (xm_pi g) := by
  refine eX9_back (K := 1) hK ⟨_, rfl⟩ ⟨_, rfl, ?_⟩
  rw [i0, if_neg (by decide)]
  refine ⟨_, rfl, _, rfl, _, sn_53 (j := 0) (by omega), ?_⟩
  refine xm_for (n := km) (Q := fun p h => xm_L 1 sX9_back kX9_back 13 [some (.ref 44), some (.int (Int32.ofNat p))] [] h (xm_pi g)) (fun p h => ∃ A', h = HP A' L F ∧ Ag [46, 47, 48, 50, 53, 72] A A' ∧ A' 53 = upd (A 53) 0 (F 44 47) ∧ (∀ q, A' 46 q = (if q < p then A 73 (4 * q) else A 46 q)) ∧ (∀ q, A' 47 q = (if q < p then A 73 (4 * q + 1) else A 47 q)) ∧ (∀ q, A' 48 q = (if q < p then A 73 (4 * q + 2) else A 48 q)) ∧ ∀ q, A' 50 q = (if q < p then A 73 (4 * q + 3) else A 50 q)) ?_ ?_ 0 _ (Nat.zero_le _) ⟨_, rfl, Ag.up Ag.rf (by simp), rfl, fun q => by rw [if_neg (by omega)]; rfl, fun q => by rw [if_neg (by omega)]; rfl, fun q => by rw [if_neg (by omega)]; rfl, fun q => by rw [if_neg (by omega)]; rfl⟩
  · rintro p h hp ⟨A1, rfl, h1, h0, h2, h3, h4, h5⟩ ih
    refine xX9_back_13 ⟨_, rfl, ?_⟩
    rw [i1, if_pos ((n_lt (by omega) (by omega)).mpr hp), n4, n_succ p, n_succ (4 * p), n42, n43]
    have e73 : A1 73 = A 73 := h1 73 (by simp)
    refine ⟨_, rfl, _, rfl, _, ln_73 (by omega), _, sn_46 (by omega), _, rfl, _, rfl, _, ln_73 (by omega), _, sn_47 (by omega), _, rfl, _, rfl, _, ln_73 (by omega), _, sn_48 (by omega), _, rfl, _, rfl, _, ln_73 (by omega), _, sn_50 (by omega), ih _ ⟨_, rfl, Ag.up (Ag.up (Ag.up (Ag.up h1 (by simp)) (by simp)) (by simp)) (by simp), h0, fun q => ?_, fun q => ?_, fun q => ?_, fun q => ?_⟩⟩
    · show upd (A1 46) p (A1 73 (4 * p)) q = _
      exact gy_upd (t := fun q => A 73 (4 * q)) h2 (by rw [e73]) q
    · show upd (A1 47) p (A1 73 (4 * p + 1)) q = _
      exact gy_upd (t := fun q => A 73 (4 * q + 1)) h3 (by rw [e73]) q
    · show upd (A1 48) p (A1 73 (4 * p + 2)) q = _
      exact gy_upd (t := fun q => A 73 (4 * q + 2)) h4 (by rw [e73]) q
    · show upd (A1 50) p (A1 73 (4 * p + 3)) q = _
      exact gy_upd (t := fun q => A 73 (4 * q + 3)) h5 (by rw [e73]) q
  · rintro h ⟨A1, rfl, h1, h0, h2, h3, h4, h5⟩
    refine xX9_back_13 ⟨_, rfl, ?_⟩
    rw [i1, if_neg (n_ge (by omega) (by omega) (Nat.le_refl _))]
    refine xm_for (n := 6) (Q := fun p h => xm_L 1 sX9_back kX9_back 67 [some (.ref 44), some (.int (Int32.ofNat p))] [] h (xm_pi g)) (fun p h => ∃ A', h = HP A' L F ∧ Ag [72] A1 A' ∧ ∀ q, q < p → A' 72 q = A 74 q) ?_ ?_ 0 _ (Nat.zero_le _) ⟨A1, rfl, Ag.rf, fun q hq => absurd hq (by omega)⟩
    · rintro p h hp ⟨A2, rfl, k3, k4⟩ ih
      refine xX9_back_67 ?_
      rw [if_pos (show Int32.ofNat p < (6 : Int32) from (n_lt (q := 6) (by omega) (by omega)).mpr hp), n_succ]
      refine ⟨_, rfl, _, rfl, _, ln_74 hp, _, sn_72 hp, ih _ ⟨_, rfl, Ag.up k3 (by simp), fun q hq => ?_⟩⟩
      show upd (A2 72) p (A2 74 p) q = _
      rw [k3 74 (by simp), h1 74 (by simp)]
      exact led_cp (S := 0) k4 hq
    · rintro h ⟨A2, rfl, k3, k4⟩
      refine xX9_back_67 ?_
      rw [if_neg (by decide)]
      refine ⟨_, rfl, _, ln_72 (j := 2) (by omega), xm_pi_i ?_⟩
      rw [k4 2 (by omega)]
      refine H _ (Ag.tr h1 (k3.mono (fun k hk => by simp at hk ⊢; omega))) ?_ ?_ ?_ ?_ ?_ k4
      · rw [k3 46 (by simp)]; exact h2
      · rw [k3 47 (by simp)]; exact h3
      · rw [k3 48 (by simp)]; exact h4
      · rw [k3 50 (by simp)]; exact h5
      · rw [k3 53 (by simp)]; exact h0
theorem st_back {g : Int32 → Int32 → xm_H → Prop} (hK : 40 ≤ K) (hI : INV A L F n nb tc) (H : Fin2 g) : xm_Call K sX8_back 8 [.ref 0] (HP A L F) (xm_pi fun c h => xm_Call K sX9_back 9 [.ref 44] h (xm_pi fun c' h' => g c c' h')) := by
  have hI0 := hI
  obtain ⟨⟨hB, -, -⟩, ⟨hC, hL, hM⟩, -⟩ := hI0
  have hB0 := hB
  obtain ⟨⟨c1, c2, c3⟩, -, b5, -, b7⟩ := hB0
  have hM0 := hM
  rcases hM0 with ⟨i1, i2⟩ | ⟨i1, i2, km, j1, j2, j3, j4, j5, j6, j7⟩
  · refine eX8_back (K := 2) (by omega) ⟨_, rfl⟩ ⟨_, rfl, ?_⟩
    rw [i1, if_pos rfl]
    refine xm_pi_i (eX9_back (K := 2) (by omega) ⟨_, rfl⟩ ⟨_, rfl, ?_⟩)
    rw [i2, if_pos rfl]
    exact xm_pi_i (H _ _ _ _ _ _ _ hI)
  · refine q_back (n := n) (km := km) (by omega) i1 c1 c3 j2 j1 (fun A1 a1 e2 e20 => ?_)
    refine r_back (km := km) (by omega) i2 j3 (by omega) (fun A2 a2 e46 e47 e48 e50 e53 e72 => ?_)
    rw [a1 74 (by simp), ← j7 2 (by omega)]
    refine H _ _ _ _ n nb tc ?_
    have eA : ∀ k, k ∉ [2, 20, 46, 47, 48, 50, 53, 72] → A2 k = A k := fun k hk => by
      simp at hk
      exact (a2 k (by simp; omega)).trans (a1 k (by simp; omega))
    have f2 : A2 2 = upd (bkS (A 2) (A 22) km) 64 (A 22 64) := (a2 2 (by simp)).trans (funext e2)
    refine hI.re (n' := n) (hB.chg ⟨rfl, rfl⟩ (fun k hk => ?_) (by rw [eA 4 (by simp)]; exact hB.2.1.2.1) (fun p h1 h2 => ?_) (fun o a hx => ?_)) (fun k hk => eA k (by simp at hk ⊢; omega)) (fun _ _ => rfl) (fun _ _ => rfl) (hC.to ⟨eA 17 (by simp), eA 18 (by simp), eA 19 (by simp), eA 54 (by simp), eA 55 (by simp), eA 56 (by simp), eA 57 (by simp)⟩ ⟨rfl, rfl, rfl, rfl⟩) (fun j hj => ?_) (hM.to (Nat.le_refl _) ⟨eA 22 (by simp), eA 23 (by simp), eA 73 (by simp), eA 74 (by simp)⟩ ⟨rfl, rfl, rfl, rfl, rfl⟩)
    · rw [f2, p_ne (by omega), bkS, if_neg (by unfold inB; omega)]
      exact hB.2.1.1 k hk
    · rw [eA 66 (by simp), eA 67 (by simp), eA 68 (by simp), eA 69 (by simp)]
      exact hB.2.1.2.2 p h1 h2
    · have one : ∀ (o' : Nat) (s : Int32), (o' = 1 ∨ o' = 2 ∨ o' = 3 ∨ o' = 5) → a < 8 → A2 (45 + o') a = (if a < km then s else A (45 + o') a) → (a < km → s = A 22 (8 * o' + a) ∧ mayV o' (A 22 (8 * o' + a))) → (A2 2 (cel o' a) = A 2 (cel o' a) ∧ A2 (mC o') (mI o' a) = A (mC o') (mI o' a)) ∨ (plc n o' a ∧ mayV o' (A2 2 (cel o' a)) ∧ A2 (mC o') (mI o' a) = A2 2 (cel o' a)) := by
        intro o' s ho ha h1 h2
        have ec : cel o' a = 8 * o' + a := cel_o (by omega)
        have em : mC o' = 45 + o' := by unfold mC; rw [if_pos (by omega)]
        have ei : mI o' a = a := by unfold mI; rw [if_pos (by omega)]
        rw [ec, em, ei, f2, p_ne (by omega), h1]
        by_cases hk : a < km
        · right
          rw [if_pos hk, bkS, if_pos (by unfold inB; omega), (h2 hk).1]
          exact ⟨Or.inl ⟨by omega, by omega⟩, (h2 hk).2, rfl⟩
        · left
          rw [if_neg hk, bkS, if_neg (by unfold inB; omega)]
          exact ⟨rfl, rfl⟩
      have e73 : A1 73 = A 73 := a1 73 (by simp)
      by_cases h1 : o = 1
      · subst h1
        refine one 1 (A 73 (4 * a)) (by omega) (by unfold plx at hx; omega) ?_ (fun hk => ⟨(j6 a hk).1.1, (j6 a hk).2.1⟩)
        rw [e46 a, e73, a1 46 (by simp)]
      by_cases h2 : o = 2
      · subst h2
        refine one 2 (A 73 (4 * a + 1)) (by omega) (by unfold plx at hx; omega) ?_ (fun hk => ⟨(j6 a hk).1.2.1, (j6 a hk).2.2.1⟩)
        rw [e47 a, e73, a1 47 (by simp)]
      by_cases h3 : o = 3
      · subst h3
        refine one 3 (A 73 (4 * a + 2)) (by omega) (by unfold plx at hx; omega) ?_ (fun hk => ⟨(j6 a hk).1.2.2.1, (j6 a hk).2.2.2.1⟩)
        rw [e48 a, e73, a1 48 (by simp)]
      by_cases h5 : o = 5
      · subst h5
        refine one 5 (A 73 (4 * a + 3)) (by omega) (by unfold plx at hx; omega) ?_ (fun hk => ⟨(j6 a hk).1.2.2.2, (j6 a hk).2.2.2.2⟩)
        rw [e50 a, e73, a1 50 (by simp)]
      by_cases h8 : o = 8
      · subst h8
        have ha : a = 0 := by unfold plx at hx; omega
        subst ha
        refine Or.inr ⟨Or.inr (Or.inr ⟨by omega, by omega, rfl⟩), ?_, ?_⟩
        · show mayV 8 (A2 2 64)
          rw [f2, p_eq]; exact j5
        · show A2 53 0 = A2 2 64
          rw [f2, p_eq, e53, p_eq, j4]
      · left
        have hc : cel o a ≠ 64 ∧ ¬ inB km (cel o a) := by
          unfold plx at hx; unfold inB cel; split <;> omega
        refine ⟨by rw [f2, p_ne hc.1, bkS, if_neg hc.2], ?_⟩
        by_cases h53 : 8 ≤ o
        · have em : mC o = 53 := by unfold mC; rw [if_neg (by omega)]
          have ei : mI o a = o - 8 := by unfold mI; rw [if_neg (by omega)]
          rw [em, ei, e53, p_ne (by omega), a1 53 (by simp)]
        · have em : mC o = 45 + o := by unfold mC; rw [if_pos (by omega)]
          rw [em, eA (45 + o) (by simp; omega)]
    · rw [a2 20 (by simp), e20 j hj, e72 j hj, a1 74 (by simp)]
      exact j7 j hj
end DDH
