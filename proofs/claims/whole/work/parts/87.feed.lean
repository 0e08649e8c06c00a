section FED
variable {A : Nat → Nat → Int32} {L : Nat → Nat → Int64} {F : Nat → Nat → Int32} {gv : xm_H → Prop} {w n p k j y e m r o a d u K nb km i t b s N : Nat} {x x1 x2 x3 x4 x5 v z B : Int32} {h : xm_H} {tc : (Nat → Int32) → Int32} {c : Nat → Int32} {q : Int64}
theorem by_eq : ∀ b, b < 256 → xm_nar 1 ((Int32.toInt8 (Int32.ofNat b)).toInt32) = byI b := by decide +kernel
theorem INV.tape {A' F' : Nat → Nat → Int32} (hI : INV A L F n nb tc) (hA : Ag [14, 58] A A') (hF : Ag [13, 44] F F') (hF4 : ∀ k, k ≠ 18 → F' 44 k = F 44 k) (hT : TpR A' F') : INV A' L F' n nb tc := by
  obtain ⟨⟨b, t1, t2⟩, ⟨c1, c2, c3⟩, -, d2, d3⟩ := hI
  have eA : ∀ k, k ∉ [14, 58] → A' k = A k := hA
  have eF : ∀ k, k ∉ [13, 44] → F' k = F k := hF
  refine ⟨⟨b.to (eA 2 (by simp)) (by rw [eA 4 (by simp)]; exact b.2.1.2.1) (fun p h1 h2 => ?_) (fun k h1 h2 => eA k (by simp; omega)) ⟨by rw [eF 1 (by simp)], hF4 1 (by omega)⟩, t1.to (eA 7 (by simp)) (eF 6 (by simp)), t2.to hA (by simp) (hF4 30 (by omega))⟩, ⟨c1.to ⟨eA 17 (by simp), eA 18 (by simp), eA 19 (by simp), eA 54 (by simp), eA 55 (by simp), eA 56 (by simp), eA 57 (by simp)⟩ ⟨by rw [eF 16 (by simp)], by rw [eF 16 (by simp)], hF4 11 (by omega), hF4 12 (by omega)⟩, c2.to ⟨eA 20 (by simp), eA 72 (by simp)⟩, c3.to (Nat.le_refl _) ⟨eA 22 (by simp), eA 23 (by simp), eA 73 (by simp), eA 74 (by simp)⟩ ⟨by rw [eF 0 (by simp)], by rw [eF 21 (by simp)], hF4 45 (by omega), hF4 46 (by omega), hF4 47 (by omega)⟩⟩, hT, d2.to ⟨eA 29 (by simp), eA 30 (by simp), eA 75 (by simp), eA 76 (by simp)⟩ ⟨by rw [eF 28 (by simp)], by rw [eF 28 (by simp)], hF4 50 (by omega), hF4 52 (by omega)⟩, d3.to ⟨eA 77 (by simp), eA 78 (by simp)⟩ (fun s hs => eF _ (by simp; omega))⟩
  rw [eA 66 (by simp), eA 67 (by simp), eA 68 (by simp), eA 69 (by simp)]
  exact b.2.1.2.2 p h1 h2
theorem st_feed {g : Int32 → Int32 → xm_H → Prop} (hK : 40 ≤ K) (hI : INV A L F n nb tc) (H : Fin2 g) : xm_Call K sX8_feed 8 [.ref 0, .int x] (HP A L F) (xm_pi fun c h => xm_Call K sX9_feed 9 [.ref 44, .int x] h (xm_pi fun c' h' => g c c' h')) := by
  have hI0 := hI
  obtain ⟨-, -, ⟨t, t0, t1, t2, t3⟩, -⟩ := hI0
  have fail : ∀ v, g v v (HP A L F) := fun v => H _ _ _ _ _ _ _ hI
  refine eX8_feed (K := 5) (by omega) ⟨_, rfl⟩ ?_
  by_cases h0 : x < 0
  · rw [if_pos h0]
    refine xm_pi_i (eX9_feed (K := 5) (by omega) ⟨_, rfl⟩ (m_in2 (by omega) (fun a1 _ => absurd h0 a1) (fun _ => ?_)))
    rw [if_pos rfl]; exact xm_pi_i (fail _)
  rw [if_neg h0]
  by_cases h5 : 255 < x
  · rw [if_pos h5]
    refine xm_pi_i (eX9_feed (K := 5) (by omega) ⟨_, rfl⟩ (m_in2 (by omega) (fun _ a2 => absurd h5 a2) (fun _ => ?_)))
    rw [if_pos rfl]; exact xm_pi_i (fail _)
  rw [if_neg h5]
  obtain ⟨b, hb, eb⟩ := i_le 255 (by omega) h0 h5
  refine ⟨_, rfl, eX3_hold (K := 4) (by omega) ⟨_, rfl⟩ ⟨_, rfl, ?_⟩⟩
  rw [t1]
  by_cases ht : t < 120
  · rw [if_pos (show Int32.ofNat t < (120 : Int32) from (n_lt (q := 120) (by omega) (by omega)).mpr ht)]
    refine ⟨_, rfl, _, rfl, ?_⟩
    rw [t1]
    refine ⟨_, sn_14 ht, _, rfl, _, p_13_1, xm_pi_i ?_⟩
    rw [if_neg (by decide)]
    refine ⟨_, rfl, _, rfl, xm_pi_i ?_⟩
    rw [u_eq, u_eq, t1, n_succ]
    refine eX9_feed (K := 5) (by omega) ⟨_, rfl⟩ (m_in2 (by omega) (fun _ _ => ?_) (fun q => (q.elim h0 h5).elim))
    rw [if_neg (by decide)]
    refine ⟨_, rfl, ?_⟩
    rw [u_ne (by omega), t2, if_neg (show ¬ Int32.ofNat t = (120 : Int32) from fun q => absurd ((n_eq (q := 120) (by omega) (by omega)).mp q) (by omega))]
    refine ⟨_, rfl, _, rfl, ?_⟩
    rw [u_ne (by omega), t2]
    refine ⟨_, sn_58 ht, _, rfl, _, p_44_18, _, rfl, xm_pi_i ?_⟩
    rw [u_eq, u_eq, u_ne (by omega), t2, n_succ]
    refine H _ _ _ _ _ _ _ (hI.tape (Ag.up (Ag.up Ag.rf (by simp)) (by simp)) (Ag.up (Ag.up Ag.rf (by simp)) (by simp)) (fun k hk => by rw [u_eq, u_ne hk]) ⟨t + 1, by omega, rfl, rfl, fun k hk => ?_⟩)
    show ∃ b, b < 256 ∧ upd (A 14) t x k = Int32.ofNat b ∧ upd (A 58) t (xm_nar 1 ((Int32.toInt8 x).toInt32)) k = byI b
    by_cases e : k = t
    · subst e
      rw [p_eq, p_eq, eb]
      exact ⟨b, by omega, rfl, by_eq b (by omega)⟩
    · rw [p_ne e, p_ne e]; exact t3 k (by omega)
  · rw [if_neg (show ¬ Int32.ofNat t < (120 : Int32) from n_ge (q := 120) (by omega) (by omega) (by omega))]
    refine xm_pi_i ?_
    rw [if_pos rfl]
    refine xm_pi_i (eX9_feed (K := 5) (by omega) ⟨_, rfl⟩ (m_in2 (by omega) (fun _ _ => ?_) (fun q => (q.elim h0 h5).elim)))
    rw [if_neg (by decide)]
    refine ⟨_, rfl, ?_⟩
    rw [t2, show t = 120 by omega, if_pos (by decide)]
    exact xm_pi_i (fail _)
end FED
