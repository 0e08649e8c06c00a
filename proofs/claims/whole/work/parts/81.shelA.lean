section SHA
variable {A : Nat → Nat → Int32} {L : Nat → Nat → Int64} {F : Nat → Nat → Int32} {gv : xm_H → Prop} {w n p k j y e m r o a d u K nb km s i t b : Nat} {x x1 x2 x3 v z : Int32} {h : xm_H} {tc : (Nat → Int32) → Int32} {c : Nat → Int32} {q : Int64}
theorem l_eq {f : Nat → Int64} {i : Nat} {v : Int64} : vp_updL f i v i = v := by unfold vp_updL; simp
theorem l_ne {f : Nat → Int64} {i j : Nat} {v : Int64} (h : j ≠ i) : vp_updL f i v j = f j := by unfold vp_updL; simp [h]
theorem six (hs : s < 6) : s = 0 ∨ s = 1 ∨ s = 2 ∨ s = 3 ∨ s = 4 ∨ s = 5 := by omega
theorem sh_obj (hs : s < 6) : ∃ fs, (HP A L F)[32 + 2 * s]? = some (.inr (5, fs)) := by rcases six hs with rfl | rfl | rfl | rfl | rfl | rfl <;> exact ⟨_, rfl⟩
theorem sh_f0 (hs : s < 6) : xm_fld (HP A L F) (32 + 2 * s) 5 0 = some (.int (F (32 + 2 * s) 0)) := by rcases six hs with rfl | rfl | rfl | rfl | rfl | rfl <;> rfl
theorem sh_f1 (hs : s < 6) : xm_fld (HP A L F) (32 + 2 * s) 5 1 = some (.int (F (32 + 2 * s) 1)) := by rcases six hs with rfl | rfl | rfl | rfl | rfl | rfl <;> rfl
theorem sh_f2 (hs : s < 6) : xm_fld (HP A L F) (32 + 2 * s) 5 2 = some (.int (F (32 + 2 * s) 2)) := by rcases six hs with rfl | rfl | rfl | rfl | rfl | rfl <;> rfl
theorem sh_f3 (hs : s < 6) : xm_fld (HP A L F) (32 + 2 * s) 5 3 = some (.ref (33 + 2 * s)) := by rcases six hs with rfl | rfl | rfl | rfl | rfl | rfl <;> rfl
theorem sh_p0 (hs : s < 6) : xm_put (HP A L F) (32 + 2 * s) 5 0 (.int v) = some (HP A L (va_up F (32 + 2 * s) (va_up (F (32 + 2 * s)) 0 v))) := by rcases six hs with rfl | rfl | rfl | rfl | rfl | rfl <;> rfl
theorem sh_p1 (hs : s < 6) : xm_put (HP A L F) (32 + 2 * s) 5 1 (.int v) = some (HP A L (va_up F (32 + 2 * s) (va_up (F (32 + 2 * s)) 1 v))) := by rcases six hs with rfl | rfl | rfl | rfl | rfl | rfl <;> rfl
theorem sh_p2 (hs : s < 6) : xm_put (HP A L F) (32 + 2 * s) 5 2 (.int v) = some (HP A L (va_up F (32 + 2 * s) (va_up (F (32 + 2 * s)) 2 v))) := by rcases six hs with rfl | rfl | rfl | rfl | rfl | rfl <;> rfl
theorem sh_ld (hs : s < 6) (hk : k < 60) : xm_ldL (HP A L F) (33 + 2 * s) (Int32.ofNat k) = some (L (33 + 2 * s) k) := by
  rcases six hs with rfl | rfl | rfl | rfl | rfl | rfl
  · exact ln_33 hk
  · exact ln_35 hk
  · exact ln_37 hk
  · exact ln_39 hk
  · exact ln_41 hk
  · exact ln_43 hk
theorem sh_st (hs : s < 6) (hk : k < 60) : xm_stoL (HP A L F) (33 + 2 * s) (Int32.ofNat k) q = some (HP A (va_up L (33 + 2 * s) (vp_updL (L (33 + 2 * s)) k q)) F) := by
  rcases six hs with rfl | rfl | rfl | rfl | rfl | rfl
  · exact sn_33 hk
  · exact sn_35 hk
  · exact sn_37 hk
  · exact sn_39 hk
  · exact sn_41 hk
  · exact sn_43 hk
theorem c_shelfAt {gn : xm_H → Prop} {gq : Nat → xm_H → Prop} (hK : 0 < K) (H : ∀ s, s < 6 → x = Int32.ofNat s → gq (32 + 2 * s) (HP A L F)) (H2 : (x < 0 ∨ ¬ x < 6) → gn (HP A L F)) : xm_Call K sX8_shelfAt 8 [.ref 0, .int x] (HP A L F) (xm_pq gn gq) := by
  refine eX8_shelfAt (K := 0) hK ⟨_, rfl⟩ ?_
  by_cases h0 : x < 0
  · rw [if_pos h0]; exact Or.inl ⟨rfl, H2 (Or.inl h0)⟩
  · rw [if_neg h0]
    by_cases h6 : x < 6
    · rw [if_pos h6]
      obtain ⟨s, hs, he⟩ := n_of (n := 6) (by omega) h0 h6
      have h1 := H s hs he
      subst he
      rcases six hs with rfl | rfl | rfl | rfl | rfl | rfl <;> exact ⟨_, rfl, _, rfl, Or.inr ⟨_, rfl, h1⟩⟩
    · rw [if_neg h6]; exact Or.inl ⟨rfl, H2 (Or.inr h6)⟩
theorem m_isShelf {g : Int32 → xm_H → Prop} (hK : 1 < K) (H : ∀ s, s < 6 → x = Int32.ofNat s → g 1 h) (H2 : (x < 0 ∨ ¬ x < 6) → g 0 h) : xm_Call K sX9_isShelf 99 [.int x] h (xm_pi g) := by
  refine eX9_isShelf (K := 1) hK (m_in2 (by omega) (fun a1 a2 => ?_) (fun hb => ?_))
  · rw [if_pos (Or.inr rfl)]
    obtain ⟨s, hs, he⟩ := i_le 5 (by omega) a1 a2
    exact xm_pi_i (H s (by omega) he)
  · rw [if_pos (Or.inl rfl)]
    refine xm_pi_i (H2 (hb.imp id (fun q1 q2 => ?_)))
    have t5 : (5 : Int32).toInt = 5 := rfl
    have t6 : (6 : Int32).toInt = 6 := rfl
    rw [Int32.lt_iff_toInt_lt] at q1 q2
    omega
theorem no6 (hs : s < 6) (he : x = Int32.ofNat s) (hb : x < 0 ∨ ¬ x < 6) : False := by
  subst he
  exact hb.elim (xs_nn (by omega)) (fun q => q ((n_lt (q := 6) (by omega) (by omega)).mpr hs))
theorem n_pred_lt2 {x : Int32} (hn : n < 1000) (h0 : ¬ x < 0) : (Int32.ofNat n - 1 < x) ↔ ¬ x < Int32.ofNat n := by
  have t1 : (1 : Int32).toInt = 1 := rfl
  have e0 := n_ti (p := n) (by omega)
  have e1 := i_sub (a := Int32.ofNat n) (b := 1) (by omega) (by omega)
  rw [Int32.lt_iff_toInt_lt, Int32.lt_iff_toInt_lt, e1, e0, t1]
  omega
theorem m_upTo {g : Int32 → xm_H → Prop} (hK : 0 < K) (hn : n < 1000) (H : ∀ p, p < n → x = Int32.ofNat p → g 1 h) (H2 : (x < 0 ∨ ¬ x < Int32.ofNat n) → g 0 h) : xm_Call K sX9_in 99 [.int x, .int 0, .int (Int32.ofNat n - 1)] h (xm_pi g) := by
  refine m_in2 hK (fun h0 h1 => ?_) (fun hb => ?_)
  · rw [n_pred_lt2 hn h0] at h1
    obtain ⟨p, hp, he⟩ := n_of (by omega) h0 (Decidable.not_not.mp h1)
    exact H p hp he
  · refine H2 ?_
    by_cases h0 : x < 0
    · exact Or.inl h0
    · exact Or.inr (hb.elim (fun q => absurd q h0) (fun q => (n_pred_lt2 hn h0).mp q))
theorem m_isBody {g : Int32 → xm_H → Prop} (hK : 1 < K) (hn : F 44 50 = Int32.ofNat nb) (hb : nb ≤ 50) (H : ∀ p, p < nb → x = Int32.ofNat p → g 1 (HP A L F)) (H2 : (x < 0 ∨ ¬ x < Int32.ofNat nb) → g 0 (HP A L F)) : xm_Call K sX9_isBody 9 [.ref 44, .int x] (HP A L F) (xm_pi g) := by
  refine eX9_isBody (K := 1) hK ⟨_, rfl⟩ ⟨_, rfl, ?_⟩
  rw [hn]
  refine m_upTo (by omega) (by omega) (fun p hp he => ?_) (fun hb => ?_)
  · rw [if_pos (Or.inr rfl)]; exact xm_pi_i (H p hp he)
  · rw [if_pos (Or.inl rfl)]; exact xm_pi_i (H2 hb)
theorem c_bhas {g : Int32 → xm_H → Prop} (hK : 0 < K) (hn : F 28 1 = Int32.ofNat nb) (hb : nb ≤ 50) (H : ∀ p, p < nb → x = Int32.ofNat p → g 1 (HP A L F)) (H2 : (x < 0 ∨ ¬ x < Int32.ofNat nb) → g 0 (HP A L F)) : xm_Call K sX1_has 1 [.ref 28, .int x] (HP A L F) (xm_pi g) := by
  refine eX1_has (K := 0) hK ⟨_, rfl⟩ ?_
  by_cases h0 : x < 0
  · rw [if_pos h0]; exact xm_pi_i (H2 (Or.inl h0))
  · rw [if_neg h0]
    refine ⟨_, rfl, ?_⟩
    rw [hn]
    by_cases h1 : x < Int32.ofNat nb
    · rw [if_pos h1]
      obtain ⟨p, hp, he⟩ := n_of (by omega) h0 h1
      exact xm_pi_i (H p hp he)
    · rw [if_neg h1]; exact xm_pi_i (H2 (Or.inr h1))
/-! one shelf -/
def Sh1 (A : Nat → Nat → Int32) (L : Nat → Nat → Int64) (F : Nat → Nat → Int32) (nb s : Nat) : Prop :=
  (F (32 + 2 * s) 0 = -1 ∧ A 77 s = -1) ∨ (F (32 + 2 * s) 0 = 5 ∧ ∃ b, b < nb ∧ F (32 + 2 * s) 1 = Int32.ofNat b ∧ A 77 s = Int32.ofNat b) ∨ (∃ t i, t ≤ 4 ∧ i ≤ 60 ∧ F (32 + 2 * s) 0 = Int32.ofNat t ∧ A 77 s = -2 - Int32.ofNat t ∧ F (32 + 2 * s) 2 = Int32.ofNat i ∧ A 78 s = Int32.ofNat i ∧ ∀ k, k < 60 → L (33 + 2 * s) k = L 79 (60 * s + k))
theorem Sh1.to {A' F' : Nat → Nat → Int32} {L' : Nat → Nat → Int64} (h : Sh1 A L F nb s) (e1 : A' 77 s = A 77 s) (e2 : A' 78 s = A 78 s) (e3 : F' (32 + 2 * s) = F (32 + 2 * s)) (e4 : L' (33 + 2 * s) = L (33 + 2 * s)) (e5 : ∀ k, k < 60 → L' 79 (60 * s + k) = L 79 (60 * s + k)) : Sh1 A' L' F' nb s := by
  unfold Sh1
  rw [e1, e2, e3, e4]
  rcases h with h | h | ⟨t, i, h1, h2, h3, h4, h5, h6, h7⟩
  · exact Or.inl h
  · exact Or.inr (Or.inl h)
  · exact Or.inr (Or.inr ⟨t, i, h1, h2, h3, h4, h5, h6, fun k hk => by rw [e5 k hk]; exact h7 k hk⟩)
theorem INV.one (hI : INV A L F n nb tc) (hs : s < 6) : Sh1 A L F nb s := hI.2.2.2.2 s hs
theorem INV.shl {A' F' : Nat → Nat → Int32} {L' : Nat → Nat → Int64} (hI : INV A L F n nb tc) (hA : Ag [77, 78] A A') (hF : Ag [32, 34, 36, 38, 40, 42] F F') (hS : ∀ s, s < 6 → Sh1 A' L' F' nb s) : INV A' L' F' n nb tc := by
  obtain ⟨⟨b, t1, t2⟩, ⟨c1, c2, c3⟩, d1, d2, -⟩ := hI
  have eA : ∀ k, k ∉ [77, 78] → A' k = A k := hA
  have eF : ∀ k, k ∉ [32, 34, 36, 38, 40, 42] → F' k = F k := hF
  refine ⟨⟨b.to (eA 2 (by simp)) (by rw [eA 4 (by simp)]; exact b.2.1.2.1) (fun p h1 h2 => ?_) (fun k h1 h2 => eA k (by simp; omega)) ⟨by rw [eF 1 (by simp)], by rw [eF 44 (by simp)]⟩, t1.to (eA 7 (by simp)) (eF 6 (by simp)), t2.to hA (by simp) (by rw [eF 44 (by simp)])⟩, ⟨c1.to ⟨eA 17 (by simp), eA 18 (by simp), eA 19 (by simp), eA 54 (by simp), eA 55 (by simp), eA 56 (by simp), eA 57 (by simp)⟩ ⟨by rw [eF 16 (by simp)], by rw [eF 16 (by simp)], by rw [eF 44 (by simp)], by rw [eF 44 (by simp)]⟩, c2.to ⟨eA 20 (by simp), eA 72 (by simp)⟩, c3.to (Nat.le_refl _) ⟨eA 22 (by simp), eA 23 (by simp), eA 73 (by simp), eA 74 (by simp)⟩ ⟨by rw [eF 0 (by simp)], by rw [eF 21 (by simp)], by rw [eF 44 (by simp)], by rw [eF 44 (by simp)], by rw [eF 44 (by simp)]⟩⟩, d1.to ⟨eA 14 (by simp), eA 58 (by simp)⟩ ⟨by rw [eF 13 (by simp)], by rw [eF 44 (by simp)]⟩, d2.to ⟨eA 29 (by simp), eA 30 (by simp), eA 75 (by simp), eA 76 (by simp)⟩ ⟨by rw [eF 28 (by simp)], by rw [eF 28 (by simp)], by rw [eF 44 (by simp)], by rw [eF 44 (by simp)]⟩, hS⟩
  rw [eA 66 (by simp), eA 67 (by simp), eA 68 (by simp), eA 69 (by simp)]
  exact b.2.1.2.2 p h1 h2
/-- one shelf has changed -/
theorem INV.shl1 {A' F' : Nat → Nat → Int32} {L' : Nat → Nat → Int64} (hI : INV A L F n nb tc) (hs : s < 6) (hA : Ag [77, 78] A A') (h77 : ∀ k, k ≠ s → A' 77 k = A 77 k) (h78 : ∀ k, k ≠ s → A' 78 k = A 78 k) (hF : ∀ k, k ≠ 32 + 2 * s → F' k = F k) (hL : ∀ r, r < 6 → r ≠ s → L' (33 + 2 * r) = L (33 + 2 * r)) (hL9 : ∀ k, ¬ (60 * s ≤ k ∧ k < 60 * s + 60) → L' 79 k = L 79 k) (h1 : Sh1 A' L' F' nb s) : INV A' L' F' n nb tc := by
  refine hI.shl hA (fun k hk => hF k (fun q => hk ?_)) (fun r hr => ?_)
  · subst q
    rcases six hs with rfl | rfl | rfl | rfl | rfl | rfl <;> simp
  · by_cases e : r = s
    · subst e; exact h1
    · exact (hI.one hr).to (h77 r e) (h78 r e) (hF _ (by omega)) (hL r hr e) (fun k hk => hL9 _ (by omega))
theorem st_keep {g : Int32 → Int32 → xm_H → Prop} (hK : 40 ≤ K) (hI : INV A L F n nb tc) (H : Fin2 g) : xm_Call K sX8_keep 8 [.ref 0, .int x1, .int x2] (HP A L F) (xm_pi fun c h => xm_Call K sX9_keep 9 [.ref 44, .int x1, .int x2] h (xm_pi fun c' h' => g c c' h')) := by
  have hI0 := hI
  obtain ⟨-, -, -, ⟨⟨n0, n1, n2, -⟩, -⟩, -⟩ := hI0
  have fail : g (-1) (-1) (HP A L F) := H _ _ _ _ _ _ _ hI
  have key : ∀ s, s < 6 → ∀ v0, (v0 = (-1 : Int32) ∧ x2 = -1) ∨ (v0 = 5 ∧ ∃ b, b < nb ∧ x2 = Int32.ofNat b) → g 1 1 (HP (va_up A 77 (upd (A 77) s x2)) L (va_up (va_up F (32 + 2 * s) (va_up (F (32 + 2 * s)) 0 v0)) (32 + 2 * s) (va_up (va_up F (32 + 2 * s) (va_up (F (32 + 2 * s)) 0 v0) (32 + 2 * s)) 1 x2))) := by
    intro s hs v0 hv
    refine H _ _ _ _ _ _ _ (hI.shl1 hs (Ag.up Ag.rf (by simp)) (fun k hk => by rw [u_eq, p_ne hk]) (fun k hk => rfl) (fun k hk => by rw [u_ne hk, u_ne hk]) (fun _ _ _ => rfl) (fun _ _ => rfl) ?_)
    unfold Sh1
    rw [u_eq, u_eq, u_eq, p_eq]
    rcases hv with ⟨rfl, rfl⟩ | ⟨rfl, b, hb, rfl⟩
    · exact Or.inl ⟨rfl, rfl⟩
    · exact Or.inr (Or.inl ⟨rfl, b, hb, rfl, rfl⟩)
  refine eX8_keep (K := 5) (by omega) ⟨_, rfl⟩ (c_shelfAt (by omega) (fun s hs he => ?_) (fun hb => ?_))
  · by_cases h1 : x2 = -1
    · rw [if_pos h1, if_pos h1]
      refine ⟨_, sh_p0 hs, _, sh_p1 hs, xm_pi_i (eX9_keep (K := 5) (by omega) ⟨_, rfl⟩ (m_isShelf (by omega) (fun s' hs' he' => ?_) (fun hb => (no6 hs he hb).elim)))⟩
      rw [if_neg (by decide), if_pos h1, he]
      exact ⟨_, rfl, _, sn_77 hs, xm_pi_i (key s hs _ (Or.inl ⟨rfl, h1⟩))⟩
    · rw [if_neg h1]
      refine ⟨_, rfl, c_bhas (nb := nb) (by omega) n1 n0 (fun b hb eb => ?_) (fun hb => ?_)⟩
      · rw [if_neg (by decide), if_neg h1]
        refine ⟨_, sh_p0 hs, _, sh_p1 hs, xm_pi_i (eX9_keep (K := 5) (by omega) ⟨_, rfl⟩ (m_isShelf (by omega) (fun s' hs' he' => ?_) (fun hb => (no6 hs he hb).elim)))⟩
        rw [if_neg (by decide), if_neg h1]
        refine m_isBody (nb := nb) (by omega) (by rw [u_ne (by omega), u_ne (by omega)]; exact n2) n0 (fun b' hb' eb' => ?_) (fun q => ?_)
        · rw [if_neg (by decide), he]
          exact ⟨_, rfl, _, sn_77 hs, xm_pi_i (key s hs _ (Or.inr ⟨rfl, b, hb, eb⟩))⟩
        · rw [eb] at q
          exact (q.elim (xs_nn (by omega)) (fun z => z ((n_lt (by omega) (by omega)).mpr hb))).elim
      · rw [if_pos rfl]
        refine xm_pi_i (eX9_keep (K := 5) (by omega) ⟨_, rfl⟩ (m_isShelf (by omega) (fun s' hs' he' => ?_) (fun hb => (no6 hs he hb).elim)))
        rw [if_neg (by decide), if_neg h1]
        refine m_isBody (nb := nb) (by omega) n2 n0 (fun b' hb' eb' => ?_) (fun q => ?_)
        · rw [eb'] at hb
          exact (hb.elim (xs_nn (by omega)) (fun z => z ((n_lt (by omega) (by omega)).mpr hb'))).elim
        · rw [if_pos rfl]; exact xm_pi_i fail
  · refine xm_pi_i (eX9_keep (K := 5) (by omega) ⟨_, rfl⟩ (m_isShelf (by omega) (fun s' hs' he' => (no6 hs' he' hb).elim) (fun _ => ?_)))
    rw [if_pos rfl]; exact xm_pi_i fail
theorem c_holdRow (hK : 1 < K) (hs : s < 6) (hi : i ≤ 60) (H : ∀ L', Ag [33 + 2 * s] L L' → (∀ k, k < 60 → L' (33 + 2 * s) k = 0) → ∀ F', Ag [32 + 2 * s] F F' → F' (32 + 2 * s) 0 = x → F' (32 + 2 * s) 2 = Int32.ofNat i → gv (HP A L' F')) : xm_Call K sX5_holdRow 5 [.ref (32 + 2 * s), .int x, .int (Int32.ofNat i)] (HP A L F) (xm_pv gv) := by
  refine eX5_holdRow (K := 1) hK (sh_obj hs) ⟨_, sh_p0 hs, c_min (by omega) (c_max (by omega) ⟨_, sh_p2 hs, ?_⟩)⟩
  have e1 : (if (60 : Int32) < Int32.ofNat i then (60 : Int32) else Int32.ofNat i) = Int32.ofNat i := if_neg (n_ge (p := 60) (by omega) (by omega) hi)
  have e2 : (if (0 : Int32) < Int32.ofNat i then Int32.ofNat i else 0) = Int32.ofNat i := by
    by_cases h0 : i = 0
    · subst h0; rfl
    · exact if_pos ((n_lt (p := 0) (by omega) (by omega)).mpr (by omega))
  rw [e1, e2]
  generalize hG : va_up (va_up F (32 + 2 * s) (va_up (F (32 + 2 * s)) 0 x)) (32 + 2 * s) _ = G
  have g1 : Ag [32 + 2 * s] F G := by rw [← hG]; exact Ag.up (Ag.up Ag.rf (by simp)) (by simp)
  have g2 : G (32 + 2 * s) 0 = x := by rw [← hG, u_eq, u_eq, u_ne (by omega), u_eq]
  have g3 : G (32 + 2 * s) 2 = Int32.ofNat i := by rw [← hG, u_eq, u_eq]
  clear hG
  refine xm_for (n := 60) (Q := fun p h => xm_L 1 sX5_holdRow kX5_holdRow 12 [some (.ref (32 + 2 * s)), none, none, some (.int (Int32.ofNat p))] [] h (xm_pv gv)) (fun p h => ∃ L', h = HP A L' G ∧ Ag [33 + 2 * s] L L' ∧ ∀ k, k < p → L' (33 + 2 * s) k = 0) ?_ ?_ 0 _ (Nat.zero_le _) ⟨L, rfl, Ag.rf, fun k hk => absurd hk (by omega)⟩
  · rintro p h hp ⟨L1, rfl, h1, h2⟩ ih
    refine xX5_holdRow_12 ?_
    rw [if_pos (show Int32.ofNat p < (60 : Int32) from (n_lt (q := 60) (by omega) (by omega)).mpr hp), n_succ]
    refine ⟨_, sh_f3 hs, _, sh_st hs hp, ih _ ⟨_, rfl, Ag.up h1 (by simp), fun k hk => ?_⟩⟩
    rw [u_eq]
    by_cases e : k = p
    · subst e; rw [l_eq]
    · rw [l_ne e]; exact h2 k (by omega)
  · rintro h ⟨L1, rfl, h1, h2⟩
    refine xX5_holdRow_12 ?_
    rw [if_neg (by decide)]
    exact xm_pv_i (H _ h1 h2 _ g1 g2 g3)
theorem n_60 (s k : Nat) : (60 : Int32) * Int32.ofNat s + Int32.ofNat k = Int32.ofNat (60 * s + k) := by rw [show (60 : Int32) * Int32.ofNat s = Int32.ofNat (60 * s) from n_mul 60 s, n_add]
theorem n_600 (s : Nat) : (60 : Int32) * Int32.ofNat s = Int32.ofNat (60 * s) := n_mul 60 s
theorem st_row {g : Int32 → Int32 → xm_H → Prop} (hK : 40 ≤ K) (hI : INV A L F n nb tc) (H : Fin2 g) : xm_Call K sX8_row 8 [.ref 0, .int x1, .int x2, .int x3] (HP A L F) (xm_pi fun c h => xm_Call K sX9_row 9 [.ref 44, .int x1, .int x2, .int x3] h (xm_pi fun c' h' => g c c' h')) := by
  have fail : ∀ v, g v v (HP A L F) := fun v => H _ _ _ _ _ _ _ hI
  have go : ∀ {A0 : Nat → Nat → Int32} {L0 : Nat → Nat → Int64} {F0 : Nat → Nat → Int32} {v : Int32} {s : Nat}, s < 6 → x1 = Int32.ofNat s → ((x2 < 0 ∨ 4 < x2) → g v (-1) (HP A0 L0 F0)) → (¬ x2 < 0 → ¬ 4 < x2 → (60 < x3 → g v (-1) (HP A0 L0 F0)) ∧ (¬ 60 < x3 → x3 < 0 → g v (-14) (HP A0 L0 F0)) ∧ (¬ 60 < x3 → ¬ x3 < 0 → ∀ L', Ag [79] L0 L' → (∀ k, ¬ (60 * s ≤ k ∧ k < 60 * s + 60) → L' 79 k = L0 79 k) → (∀ k, k < 60 → L' 79 (60 * s + k) = 0) → g v 1 (HP (va_up (va_up A0 77 (upd (A0 77) s (-2 - x2))) 78 (upd (A0 78) s x3)) L' F0))) → xm_Call K sX9_row 9 [.ref 44, .int x1, .int x2, .int x3] (HP A0 L0 F0) (xm_pi fun c' h' => g v c' h') := by
    intro A0 L0 F0 v s hs he Hb Hg
    refine eX9_row (K := 5) (by omega) ⟨_, rfl⟩ (m_isShelf (by omega) (fun s' hs' he' => ?_) (fun hb => (no6 hs he hb).elim))
    rw [if_neg (by decide)]
    refine m_in2 (by omega) (fun a1 a2 => ?_) (fun hb => ?_)
    · rw [if_neg (by decide)]
      obtain ⟨k1, k2, k3⟩ := Hg a1 a2
      by_cases h6 : 60 < x3
      · rw [if_pos h6]; exact xm_pi_i (k1 h6)
      rw [if_neg h6]
      by_cases h0 : x3 < 0
      · rw [if_pos h0]; exact xm_pi_i (k2 h6 h0)
      rw [if_neg h0, he]
      refine ⟨_, rfl, _, sn_77 hs, _, rfl, _, sn_78 hs, ?_⟩
      rw [n_600]
      refine xm_for (n := 60) (Q := fun p h => xm_L 5 sX9_row kX9_row 33 [some (.ref 44), some (.int (Int32.ofNat s)), none, none, some (.int (Int32.ofNat (60 * s + p)))] [] h (xm_pi fun c' h' => g v c' h')) (fun p h => ∃ L', h = HP (va_up (va_up A0 77 (upd (A0 77) s (-2 - x2))) 78 (upd (A0 78) s x3)) L' F0 ∧ Ag [79] L0 L' ∧ (∀ k, ¬ (60 * s ≤ k ∧ k < 60 * s + 60) → L' 79 k = L0 79 k) ∧ ∀ k, k < p → L' 79 (60 * s + k) = 0) ?_ ?_ 0 _ (Nat.zero_le _) ⟨L0, rfl, Ag.rf, fun _ _ => rfl, fun k hk => absurd hk (by omega)⟩
      · rintro p h hp ⟨L1, rfl, h1, h2, h3⟩ ih
        refine xX9_row_33 ?_
        rw [n_600, show Int32.ofNat (60 * s) + (60 : Int32) = Int32.ofNat (60 * s + 60) from n_add _ 60, if_pos ((n_lt (by omega) (by omega)).mpr (by omega)), n_succ]
        refine ⟨_, rfl, _, sn_79 (by omega), ih _ ⟨_, rfl, Ag.up h1 (by simp), fun k hk => ?_, fun k hk => ?_⟩⟩
        · rw [u_eq, l_ne (by omega)]; exact h2 k hk
        · rw [u_eq]
          by_cases e : k = p
          · subst e; rw [l_eq]
          · rw [l_ne (by omega)]; exact h3 k (by omega)
      · rintro h ⟨L1, rfl, h1, h2, h3⟩
        refine xX9_row_33 ?_
        rw [n_600, show Int32.ofNat (60 * s) + (60 : Int32) = Int32.ofNat (60 * s + 60) from n_add _ 60, if_neg (n_ge (by omega) (by omega) (Nat.le_refl _))]
        exact xm_pi_i (k3 h6 h0 L1 h1 h2 h3)
    · rw [if_pos rfl]; exact xm_pi_i (Hb hb)
  refine eX8_row (K := 5) (by omega) ⟨_, rfl⟩ (c_shelfAt (by omega) (fun s hs he => ?_) (fun hb => ?_))
  · by_cases h0 : x2 < 0
    · rw [if_pos h0]; exact xm_pi_i (go hs he (fun _ => fail _) (fun q => absurd h0 q))
    rw [if_neg h0]
    by_cases h4 : 4 < x2
    · rw [if_pos h4]; exact xm_pi_i (go hs he (fun _ => fail _) (fun _ q => absurd h4 q))
    rw [if_neg h4]
    by_cases h6 : 60 < x3
    · rw [if_pos h6]; exact xm_pi_i (go hs he (fun q => (q.elim h0 h4).elim) (fun _ _ => ⟨fun _ => fail _, fun q => absurd h6 q, fun q => absurd h6 q⟩))
    rw [if_neg h6]
    by_cases h3 : x3 < 0
    · rw [if_pos h3]; exact xm_pi_i (go hs he (fun q => (q.elim h0 h4).elim) (fun _ _ => ⟨fun q => absurd q h6, fun _ _ => fail _, fun _ q => absurd h3 q⟩))
    rw [if_neg h3]
    obtain ⟨t, ht, et⟩ := i_le 4 (by omega) h0 h4
    obtain ⟨i, hi, ei⟩ := i_le 60 (by omega) h3 h6
    rw [ei]
    refine c_holdRow (by omega) hs hi (fun L1 l1 l2 F1 f1 f2 f3 => xm_pi_i ?_)
    rw [← ei]
    refine go hs he (fun q => (q.elim h0 h4).elim) (fun _ _ => ⟨fun q => absurd q h6, fun _ q => absurd q h3, fun _ _ L2 m1 m2 m3 => H _ _ _ _ _ _ _ (hI.shl1 hs ?_ (fun k hk => ?_) (fun k hk => ?_) (fun k hk => f1 k (by simpa using hk)) (fun r hr hrs => ?_) (fun k hk => ?_) ?_)⟩)
    · exact Ag.up (Ag.up Ag.rf (by simp)) (by simp)
    · rw [u_ne (by omega), u_eq, p_ne hk]
    · rw [u_eq, p_ne hk]
    · rw [m1 _ (by simp; omega), l1 _ (by simp; omega)]
    · rw [m2 k hk, l1 79 (by simp; omega)]
    · refine Or.inr (Or.inr ⟨t, i, ht, hi, f2.trans et, ?_, f3, ?_, fun k hk => ?_⟩)
      · rw [u_ne (by omega), u_eq, p_eq, et]
      · rw [u_eq, p_eq, ei]
      · rw [m3 k hk, m1 _ (by simp; omega), l2 k hk]
  · refine xm_pi_i (eX9_row (K := 5) (by omega) ⟨_, rfl⟩ (m_isShelf (by omega) (fun s' hs' he' => (no6 hs' he' hb).elim) (fun _ => ?_)))
    rw [if_pos rfl]; exact xm_pi_i (fail _)
end SHA
