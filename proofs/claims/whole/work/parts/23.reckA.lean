section RKA
variable {A : Nat → Nat → Int32} {L : Nat → Nat → Int64} {F : Nat → Nat → Int32} {g : Int32 → xm_H → Prop} {gv : xm_H → Prop} {w n p k j y K : Nat} {x v z : Int32} {h : xm_H}
/-- a loop that counts up -/
theorem xm_for {n : Nat} {Q : Nat → xm_H → Prop} (I : Nat → xm_H → Prop) (step : ∀ p h, p < n → I p h → (∀ h', I (p + 1) h' → Q (p + 1) h') → Q p h) (fin : ∀ h, I n h → Q n h) : ∀ (p : Nat) (h : xm_H), p ≤ n → I p h → Q p h := by
  have key : ∀ (m p : Nat) (h : xm_H), p + m = n → I p h → Q p h := by
    intro m
    induction m with
    | zero => intro p h hp hI; have : p = n := by omega
              subst this; exact fin h hI
    | succ m ih => intro p h hp hI; exact step p h (by omega) hI (fun h' hI' => ih (p + 1) h' (by omega) hI')
  exact fun p h hp hI => key (n - p) p h (by omega) hI
theorem c_isGone (hK : 0 < K) (H : g (if x < 2 then 0 else 1) h) : xm_Call K sX4_isGone 99 [.int x] h (xm_pi g) := by
  refine eX4_isGone (K := 0) hK ?_
  split
  · next hc => rw [if_pos hc] at H; exact xm_pi_i H
  · next hc => rw [if_neg hc] at H; exact xm_pi_i H
theorem c_isSaid (hK : 0 < K) (H : g (if x = 1 ∨ x = 2 then 1 else 0) h) : xm_Call K sX4_isSaid 99 [.int x] h (xm_pi g) := by
  refine eX4_isSaid (K := 0) hK ?_
  by_cases h1 : x = 1
  · rw [if_pos h1]; rw [if_pos (Or.inl h1)] at H; exact xm_pi_i H
  · rw [if_neg h1]
    by_cases h2 : x = 2
    · rw [if_pos h2]; rw [if_pos (Or.inr h2)] at H; exact xm_pi_i H
    · rw [if_neg h2]; rw [if_neg (fun q => q.elim h1 h2)] at H; exact xm_pi_i H
def nSay (hb : Nat → Int32) : Nat → Nat
  | 0 => 0
  | n + 1 => nSay hb n + (if hb n = 1 ∨ hb n = 2 then 1 else 0)
def nGo (hb : Nat → Int32) : Nat → Nat
  | 0 => 0
  | n + 1 => nGo hb n + (if hb n < 2 then 0 else 1)
theorem w_ne {w : Nat} (hw : isW w) : w ≠ 5 := by rcases hw with rfl | rfl | rfl <;> decide
/-- a field of the reckoner becomes v -/
abbrev rkF (F : Nat → Nat → Int32) (k : Nat) (v : Int32) : Nat → Nat → Int32 := va_up F 5 (va_up (F 5) k v)
theorem rkF_w (hw : isW w) : rkF F k v w = F w := u_ne (w_ne hw)
def lookI (A : Nat → Nat → Int32) (L : Nat → Nat → Int64) (F : Nat → Nat → Int32) (w p : Nat) (h : xm_H) : Prop := ∃ F', h = HP A L F' ∧ Ag [5] F F' ∧ (∀ k, k ≠ 5 → k ≠ 6 → F' 5 k = F 5 k) ∧ F' 5 5 = Int32.ofNat (nSay (fun q => A (w + 1) (24 + q)) p) ∧ F' 5 6 = Int32.ofNat (nGo (fun q => A (w + 1) (24 + q)) p)
set_option maxHeartbeats 1000000 in
theorem c_look (hK : 2 < K) (hw : isW w) (hn : F w 1 = Int32.ofNat n) (hn8 : n ≤ 8) (H : ∀ F', Ag [5] F F' → (∀ k, k ≠ 5 → k ≠ 6 → F' 5 k = F 5 k) → F' 5 5 = Int32.ofNat (nSay (fun q => A (w + 1) (24 + q)) n) → F' 5 6 = Int32.ofNat (nGo (fun q => A (w + 1) (24 + q)) n) → gv (HP A L F')) : xm_Call K sX4_look 4 [.ref 5, .ref w] (HP A L F) (xm_pv gv) := by
  refine eX4_look (K := 2) hK ⟨_, rfl⟩ ⟨_, p_5_5, _, p_5_6, ?_⟩
  refine xm_for (n := n) (Q := fun p h => xm_L 2 sX4_look kX4_look 8 [some (.ref 5), some (.ref w), some (.int (Int32.ofNat p)), none] [] h (xm_pv gv)) (lookI A L F w) ?_ ?_ 0 _ (Nat.zero_le _) ⟨_, rfl, Ag.up (Ag.up Ag.rf (by simp)) (by simp), fun k h1 h2 => ?_, rfl, rfl⟩
  · rintro p h hp ⟨F', rfl, h1, h2, h3, h4⟩ ih
    have hn' : F' w 1 = Int32.ofNat n := by rw [h1 w (by simpa using w_ne hw)]; exact hn
    refine xX4_look_8 ⟨_, w_people hw, ?_⟩
    rw [hn', if_pos ((n_lt (by omega) (by omega)).mpr hp)]
    refine c_get (k := 3) (by omega) hw hn' hn8 hp (by omega) ⟨_, rfl, ?_⟩
    refine c_isSaid (by omega) ?_
    have step : ∀ (a b : Nat), nSay (fun q => A (w + 1) (24 + q)) (p + 1) = nSay (fun q => A (w + 1) (24 + q)) p + a → nGo (fun q => A (w + 1) (24 + q)) (p + 1) = nGo (fun q => A (w + 1) (24 + q)) p + b → xm_L 2 sX4_look kX4_look 8 [some (.ref 5), some (.ref w), some (.int (Int32.ofNat p + 1)), none] [] (HP A L (rkF (rkF F' 5 (F' 5 5 + Int32.ofNat a)) 6 (rkF F' 5 (F' 5 5 + Int32.ofNat a) 5 6 + Int32.ofNat b))) (xm_pv gv) := by
      intro a b ha hb
      rw [n_succ]
      refine ih _ ⟨_, rfl, Ag.up (Ag.up h1 (by simp)) (by simp), fun k k5 k6 => ?_, ?_, ?_⟩
      · simp only [rkF, u_eq, u_ne k6, u_ne k5]; exact h2 k k5 k6
      · show F' 5 5 + Int32.ofNat a = _
        rw [h3, n_add, ha]
      · show F' 5 6 + Int32.ofNat b = _
        rw [h4, n_add, hb]
    by_cases hs : A (w + 1) (8 * 3 + p) = 1 ∨ A (w + 1) (8 * 3 + p) = 2
    · rw [if_pos hs, if_neg (by decide)]
      refine ⟨_, p_5_5, _, rfl, c_isGone (by omega) ?_⟩
      by_cases hg : A (w + 1) (8 * 3 + p) < 2
      · rw [if_pos hg, if_pos rfl]
        exact ⟨_, p_5_6, step 1 0 (by show _ + _ = _; rw [if_pos hs]) (by show _ + _ = _; rw [if_pos hg])⟩
      · rw [if_neg hg, if_neg (by decide)]
        exact ⟨_, p_5_6, step 1 1 (by show _ + _ = _; rw [if_pos hs]) (by show _ + _ = _; rw [if_neg hg])⟩
    · rw [if_neg hs, if_pos rfl]
      refine ⟨_, p_5_5, _, rfl, c_isGone (by omega) ?_⟩
      by_cases hg : A (w + 1) (8 * 3 + p) < 2
      · rw [if_pos hg, if_pos rfl]
        exact ⟨_, p_5_6, step 0 0 (by show _ + _ = _; rw [if_neg hs]) (by show _ + _ = _; rw [if_pos hg])⟩
      · rw [if_neg hg, if_neg (by decide)]
        exact ⟨_, p_5_6, step 0 1 (by show _ + _ = _; rw [if_neg hs]) (by show _ + _ = _; rw [if_neg hg])⟩
  · rintro h ⟨F', rfl, h1, h2, h3, h4⟩
    have hn' : F' w 1 = Int32.ofNat n := by rw [h1 w (by simpa using w_ne hw)]; exact hn
    refine xX4_look_8 ⟨_, w_people hw, ?_⟩
    rw [hn', if_neg (fun q => absurd ((n_lt (by omega) (by omega)).mp q) (by omega))]
    exact xm_pv_i (H F' h1 h2 h3 h4)
  · rw [u_eq, u_ne h2, u_eq, u_ne h1]
end RKA
