section TXF
variable {A : Nat → Nat → Int32} {L : Nat → Nat → Int64} {F : Nat → Nat → Int32} {A' F' : Nat → Nat → Int32} {gv : xm_H → Prop} {g : Int32 → Int32 → xm_H → Prop} {P : Option Value → xm_H → Prop} {K t p r o m v s n k j i q e N nb : Nat} {x x1 x2 y z : Int32} {h : xm_H} {ts acc l l1 l2 : List Nat} {st cs u w : List Int32} {f : Nat → Int32} {tc : (Nat → Int32) → Int32} {sg : Nat → Nat} {ls : List (List Nat × Option (List Nat))}
theorem gA (i : Nat) : (cs ++ u).getD (cs.length + i) 0 = u.getD i 0 := by
  rw [List.getD_eq_getElem?_getD, List.getElem?_append_right (by omega), Nat.add_sub_cancel_left, ← List.getD_eq_getElem?_getD]
theorem gB (hi : i < l.length) : (l.map Int32.ofNat ++ w).getD i 0 = Int32.ofNat (l.getD i 0) := by
  rw [List.getD_eq_getElem?_getD, List.getElem?_append_left (by rw [List.length_map]; exact hi), List.getElem?_map, List.getD_eq_getElem?_getD, List.getElem?_eq_getElem hi]
  rfl
theorem gC (i : Nat) : (l.map Int32.ofNat ++ w).getD (l.length + i) 0 = w.getD i 0 := by
  have := gA (cs := l.map Int32.ofNat) (u := w) i
  rw [List.length_map] at this
  exact this
theorem cdL_pre : ∀ (ls : List (List Nat × Option (List Nat))) (cs : List Int32), ∃ w, cdL cs ls = cs ++ w
  | [], cs => ⟨[], (List.append_nil _).symm⟩
  | ln :: r, cs => by
    obtain ⟨w, hw⟩ := cdL_pre r (cs ++ lnC cs.length ln)
    exact ⟨lnC cs.length ln ++ w, by rw [← List.append_assoc]; exact hw⟩
theorem cd_of : ∀ (ls : List (List Nat × Option (List Nat))) (cs : List Int32), (∀ k, k < (cdL cs ls).length → f k = (cdL cs ls).getD k 0) → CdC f (cdL cs ls).length ls cs.length
  | [], cs, _ => rfl
  | (l1, none) :: r, cs, h => by
    have h' : ∀ k, k < (cdL (cs ++ (l1.map Int32.ofNat ++ [59])) r).length → f k = (cdL (cs ++ (l1.map Int32.ofNat ++ [59])) r).getD k 0 := h
    have ih := cd_of r (cs ++ (l1.map Int32.ofNat ++ [59])) h'
    obtain ⟨w, hw⟩ := cdL_pre r (cs ++ (l1.map Int32.ofNat ++ [59]))
    have len : (cs ++ (l1.map Int32.ofNat ++ [59])).length = cs.length + l1.length + 1 := by
      rw [List.length_append, List.length_append, List.length_map]; show cs.length + (l1.length + 1) = _; omega
    have lenN : (cdL cs ((l1, none) :: r)).length = (cs ++ (l1.map Int32.ofNat ++ [59])).length + w.length := by
      show (cdL (cs ++ (l1.map Int32.ofNat ++ [59])) r).length = _; rw [hw, List.length_append]
    have lenM : (cdL (cs ++ (l1.map Int32.ofNat ++ [59])) r).length = cs.length + l1.length + 1 + w.length := by rw [hw, List.length_append, len]
    have e : ∀ k, k < cs.length + l1.length + 1 + w.length → f k = (cs ++ (l1.map Int32.ofNat ++ ((59 : Int32) :: w))).getD k 0 := fun k hk => by
      rw [h' k (by omega), hw, List.append_assoc, List.append_assoc]; rfl
    rw [len] at ih lenN
    refine ⟨⟨fun i hi => ?_, ?_, by omega⟩, ih⟩
    · rw [e _ (by omega), gA, gB hi]
    · rw [e _ (by omega), gA]; exact gC 0
  | (l1, some l2) :: r, cs, h => by
    have h' : ∀ k, k < (cdL (cs ++ (l1.map Int32.ofNat ++ [-(Int32.ofNat (cs.length + l1.length + 1 + l2.length))] ++ l2.map Int32.ofNat ++ [59])) r).length → f k = (cdL (cs ++ (l1.map Int32.ofNat ++ [-(Int32.ofNat (cs.length + l1.length + 1 + l2.length))] ++ l2.map Int32.ofNat ++ [59])) r).getD k 0 := h
    have ih := cd_of r (cs ++ (l1.map Int32.ofNat ++ [-(Int32.ofNat (cs.length + l1.length + 1 + l2.length))] ++ l2.map Int32.ofNat ++ [59])) h'
    have e0 : (cdL cs ((l1, some l2) :: r)) = cdL (cs ++ (l1.map Int32.ofNat ++ [-(Int32.ofNat (cs.length + l1.length + 1 + l2.length))] ++ l2.map Int32.ofNat ++ [59])) r := rfl
    rw [e0]
    generalize hM : -(Int32.ofNat (cs.length + l1.length + 1 + l2.length)) = M at ih h' e0 ⊢
    obtain ⟨w, hw⟩ := cdL_pre r (cs ++ (l1.map Int32.ofNat ++ [M] ++ l2.map Int32.ofNat ++ [59]))
    have len : (cs ++ (l1.map Int32.ofNat ++ [M] ++ l2.map Int32.ofNat ++ [59])).length = cs.length + l1.length + 1 + l2.length + 1 := by
      rw [List.length_append, List.length_append, List.length_append, List.length_append, List.length_map, List.length_map]; show cs.length + (l1.length + 1 + l2.length + 1) = _; omega
    have lenM : (cdL (cs ++ (l1.map Int32.ofNat ++ [M] ++ l2.map Int32.ofNat ++ [59])) r).length = cs.length + l1.length + 1 + l2.length + 1 + w.length := by rw [hw, List.length_append, len]
    have e : ∀ k, k < cs.length + l1.length + 1 + l2.length + 1 + w.length → f k = (cs ++ (l1.map Int32.ofNat ++ (M :: (l2.map Int32.ofNat ++ ((59 : Int32) :: w))))).getD k 0 := fun k hk => by
      rw [h' k (by omega), hw, List.append_assoc, List.append_assoc, List.append_assoc, List.append_assoc]; rfl
    rw [len] at ih
    refine ⟨⟨fun i hi => ?_, ?_, fun i hi => ?_, ?_, by omega⟩, ih⟩
    · rw [e _ (by omega), gA, gB hi]
    · rw [hM, e _ (by omega), gA]; exact gC 0
    · rw [e _ (by omega), show cs.length + l1.length + 1 + i = cs.length + (l1.length + (i + 1)) by omega, gA, gC]
      exact gB hi
    · rw [e _ (by omega), show cs.length + l1.length + 1 + l2.length = cs.length + (l1.length + (l2.length + 1)) by omega, gA, gC]
      exact gC 0
theorem cdL_pos (h : ls ≠ []) : 0 < (cdL [] ls).length := by
  match ls, h with
  | ln :: r, _ =>
    obtain ⟨w, hw⟩ := cdL_pre r ([] ++ lnC 0 ln)
    have e0 : cdL [] (ln :: r) = cdL ([] ++ lnC 0 ln) r := rfl
    rw [e0, hw, List.length_append]
    have : 0 < ([] ++ lnC 0 ln).length := by
      rcases ln with ⟨l1, q⟩
      cases q with
      | none => show 0 < (l1.map Int32.ofNat ++ [59]).length; rw [List.length_append]; show 0 < _ + 1; omega
      | some l2 => show 0 < (l1.map Int32.ofNat ++ [-(Int32.ofNat (0 + l1.length + 1 + l2.length))] ++ l2.map Int32.ofNat ++ [59]).length; rw [List.length_append]; show 0 < _ + 1; omega
    omega
/-- a text is taken over -/
theorem cp_15 (hN : N ≤ 128) : xm_cpI (HP A L F) 15 0 7 0 (Int32.ofNat N) = some (HP (va_up A 7 (va_cpy (A 15) (A 7) 0 0 N)) L F) := by
  have e : xm_cpI (HP A L F) 15 0 7 0 (Int32.ofNat N) = if (¬ (0 : Int32) < 0 ∧ ¬ (0 : Int32) < 0 ∧ ¬ Int32.ofNat N < 0) ∧ (0 : Int32).toNatClampNeg + (Int32.ofNat N).toNatClampNeg ≤ 128 ∧ (0 : Int32).toNatClampNeg + (Int32.ofNat N).toNatClampNeg ≤ 128 then some (HP (va_up A 7 (va_cpy (A 15) (A 7) (0 : Int32).toNatClampNeg (0 : Int32).toNatClampNeg (Int32.ofNat N).toNatClampNeg)) L F) else none := rfl
  rw [e, xs_tn (by omega), show (0 : Int32).toNatClampNeg = 0 from rfl, if_pos ⟨⟨by decide, by decide, xs_nn (by omega)⟩, by omega, by omega⟩]
theorem c_become (hK : 1 < K) (hN : N ≤ 128) (H : gv (HP (va_up A 7 (va_cpy (A 15) (A 7) 0 0 N)) L (va_up F 6 (va_up (F 6) 1 (Int32.ofNat N))))) : xm_Call K sX6_become 6 [.ref 6, .ref 15, .int (Int32.ofNat N)] (HP A L F) (xm_pv gv) := by
  refine eX6_become (K := 1) hK ⟨_, rfl⟩ ⟨Int32.ofNat 128, rfl, c_min (by omega) ?_⟩
  try dsimp only
  rw [if_neg (show ¬ (128 : Int32) < Int32.ofNat 128 by decide)]
  refine c_min (by omega) ?_
  try dsimp only
  rw [if_neg (n_ge (by omega) (by omega) hN)]
  refine c_max (by omega) ?_
  try dsimp only
  have e : (if (0 : Int32) < Int32.ofNat N then Int32.ofNat N else 0) = Int32.ofNat N := by
    by_cases h0 : N = 0
    · subst h0; rfl
    · rw [if_pos (show (0 : Int32) < Int32.ofNat N from (n_lt (p := 0) (by omega) (by omega)).mpr (by omega))]
  rw [e]
  refine ⟨_, p_6_1, _, rfl, _, rfl, ?_⟩
  rw [show va_up F 6 (va_up (F 6) 1 (Int32.ofNat N)) 6 1 = Int32.ofNat N by rw [u_eq, u_eq]]
  exact ⟨_, cp_15 hN, xm_pv_i H⟩
theorem TXm.lo (h : TXm A F tc) (c1 : ∀ k, k < 130 → A' 59 k = A 59 k ∧ A' 60 k = A 60 k) (c3 : A' 61 0 = A 61 0) (c4 : ∀ k, k < 61 → A' 62 k = A 62 k) (c5 : ∀ k, k < 61 → A' 63 k = A 63 k) (h2 : F' 44 30 = F 44 30) : TXm A' F' tc := by
  rcases h with ⟨a, b⟩ | ⟨a, b⟩
  · exact Or.inl ⟨by rw [h2]; exact a, b⟩
  · exact Or.inr ⟨by rw [h2]; exact a, fun B M G g d1 d2 d3 d4 d5 d6 => b B M G g (fun k hk => (d1 k hk).trans (c1 k hk).1) (fun k hk => (d2 k hk).trans (c1 k hk).2) (d3.trans c3) (fun k hk => (d4 k hk).trans (c4 k hk)) (fun k hk => (d5 k hk).trans (c5 k hk)) d6⟩
/-- behind law() -/
theorem INV.law {tc' : (Nat → Int32) → Int32} (h : INV A L F n nb tc) (hA : Ag [7, 15, 59, 60, 61, 62, 63] A A') (hF : Ag [6, 13, 44] F F') (h44 : ∀ k, k ∉ [18, 19, 20, 21, 22, 30] → F' 44 k = F 44 k) (h13 : F' 13 1 = 0) (h18 : F' 44 18 = 0) (x1 : TXok A' F' tc') (x2 : TXm A' F' tc') : INV A' L F' n nb tc' := by
  obtain ⟨⟨b, t1, t2⟩, ⟨c1, c2, c3⟩, d1, d2, d3⟩ := h
  refine ⟨⟨b.to (hA 2 (by simp)) (by rw [hA 4 (by simp)]; exact b.2.1.2.1) (fun p q1 q2 => ?_) (fun k q1 q2 => hA k (by simp; omega)) ⟨by rw [hF 1 (by simp)], h44 1 (by simp)⟩, x1, x2⟩, ⟨c1.to ⟨hA 17 (by simp), hA 18 (by simp), hA 19 (by simp), hA 54 (by simp), hA 55 (by simp), hA 56 (by simp), hA 57 (by simp)⟩ ⟨by rw [hF 16 (by simp)], by rw [hF 16 (by simp)], h44 11 (by simp), h44 12 (by simp)⟩, c2.to ⟨hA 20 (by simp), hA 72 (by simp)⟩, c3.to (Nat.le_refl _) ⟨hA 22 (by simp), hA 23 (by simp), hA 73 (by simp), hA 74 (by simp)⟩ ⟨by rw [hF 0 (by simp)], by rw [hF 21 (by simp)], h44 45 (by simp), h44 46 (by simp), h44 47 (by simp)⟩⟩, ⟨0, by omega, h13, h18, fun k hk => absurd hk (by omega)⟩, d2.to ⟨hA 29 (by simp), hA 30 (by simp), hA 75 (by simp), hA 76 (by simp)⟩ ⟨by rw [hF 28 (by simp)], by rw [hF 28 (by simp)], h44 50 (by simp), h44 52 (by simp)⟩, d3.to ⟨hA 77 (by simp), hA 78 (by simp)⟩ (fun s hs => hF _ (by simp; omega))⟩
  rw [hA 66 (by simp), hA 67 (by simp), hA 68 (by simp), hA 69 (by simp)]
  exact b.2.1.2.2 p q1 q2
/-- the reference reads THE TAPE -/
theorem m_read0 {g : Int32 → xm_H → Prop} (hK : 83 < K) (hT : TpM A sg t) (ht : F 44 18 = Int32.ofNat t) (Hok : ∀ ls A' F', (txR sg t (t + 1) 0 []).2 = some ls → Ag [59, 60, 61, 62, 63] A A' → DM A' ls → Ag [44] F F' → (∀ k, k ∉ [18, 19, 20, 21, 22] → F' 44 k = F 44 k) → F' 44 18 = 0 → g (-1) (HP A' L F')) (Hf : ∀ A' F', (txR sg t (t + 1) 0 []).2 = none → Ag [59, 60, 61, 62, 63] A A' → (∀ k, k < 130 → A' 59 k = A 59 k ∧ A' 60 k = A 60 k) → A' 61 0 = A 61 0 → (∀ k, k < 61 → A' 62 k = A 62 k) → (∀ k, k < 61 → A' 63 k = A 63 k) → Ag [44] F F' → (∀ k, k ∉ [18, 19, 20, 21, 22] → F' 44 k = F 44 k) → F' 44 18 = 0 → (txR sg t (t + 1) 0 []).1 ≤ t → g (Int32.ofNat (txR sg t (t + 1) 0 []).1) (HP A' L F')) : xm_Call K sX9_readText 9 [.ref 44, .int 0] (HP A L F) (xm_pi g) := by
  refine eX9_readText (K := 83) hK ⟨_, rfl⟩ ⟨_, p_44_19, _, p_44_20, _, p_44_21, _, p_44_22, _, rfl, _, sn_61 (j := 1) (by omega), ?_⟩
  have fin : ∀ F1 : Nat → Nat → Int32, Ag [44] F F1 → (∀ k, k ∉ [19, 20, 21, 22] → F1 44 k = F 44 k) → Ag [44] F (va_up F1 44 (va_up (F1 44) 18 0)) ∧ (∀ k, k ∉ [18, 19, 20, 21, 22] → va_up F1 44 (va_up (F1 44) 18 0) 44 k = F 44 k) ∧ va_up F1 44 (va_up (F1 44) 18 0) 44 18 = 0 := fun F1 h1 h2 => ⟨Ag.up h1 (by simp), fun k hk => by
    simp at hk
    rw [u_eq, u_ne (by omega)]; exact h2 k (by simp; omega), by rw [u_eq, u_eq]⟩
  refine m_text (sg := sg) (b0 := (A 61, A 62, A 63)) hT ht (by omega) (t + 1) 0 [] _ _ _ (Nat.zero_le _) (by omega) (Nat.le_refl _) (Nat.le_refl _) (show upd (A 61) 1 0 1 = Int32.ofNat 0 from p_eq) ⟨show upd (A 61) 1 0 0 = A 61 0 from p_ne (by omega), fun _ _ => rfl, fun _ _ => rfl⟩ ?_ (fun ls A2 F2 z r2 h1 h2 h3 => ?_) (fun A2 F2 q ln b' z rn hlo hp => xm_pi_i ?_)
  · refine ⟨⟨Ag.up Ag.rf (by simp), ⟨by rw [u_eq]; rfl, u_ne (by omega), u_ne (by omega)⟩, Ag.up (Ag.up (Ag.up (Ag.up Ag.rf (by simp)) (by simp)) (by simp)) (by simp), fun k hk => ?_, fun k hk => ⟨by rw [u_ne (by omega)], by rw [u_ne (by omega)]⟩⟩, ?_, ?_, ?_, ?_, fun k hk => absurd hk (by show ¬ k < 0; omega)⟩
    · simp at hk
      rw [u_eq, u_ne (by omega), u_eq, u_ne (by omega), u_eq, u_ne (by omega), u_eq, u_ne (by omega)]
    · rw [u_eq, u_ne (by omega), u_eq, u_ne (by omega), u_eq, u_ne (by omega), u_eq, u_eq]; rfl
    · rw [u_eq, u_ne (by omega), u_eq, u_ne (by omega), u_eq, u_eq]
    · rw [u_eq, u_ne (by omega), u_eq, u_eq]; rfl
    · rw [u_eq, u_eq]; rfl
  · have hg := (txR_gd hT.2.1 hT.1 (t + 1) 0 [] (Nat.zero_le _) (fun _ h => absurd h (by simp)) ls z).2
    refine m_copy (by omega) r2 h1 h2 h3 hg (fun A3 a3 d3 => ?_)
    obtain ⟨f1, f2, f3⟩ := fin F2 r2.1.2.2.1 r2.1.2.2.2.1
    exact Hok ls A3 _ z a3 d3 f1 f2 f3
  · obtain ⟨f1, f2, f3⟩ := fin F2 rn.1.2.2.1 rn.1.2.2.2.1
    obtain ⟨⟨a1, ⟨a2, a3, a4⟩, -, -, a5⟩, -⟩ := rn
    exact Hf A2 _ z a1 a5 (by rw [a2]; exact hlo.1) (fun k hk => by rw [a3]; exact hlo.2.1 k hk) (fun k hk => by rw [a4]; exact hlo.2.2 k hk) f1 f2 f3 hp
set_option maxHeartbeats 2000000 in
theorem st_law (hK : 90 ≤ K) (hI : INV A L F n nb tc) (H : Fin2 g) : xm_Call K sX8_law 8 [.ref 0] (HP A L F) (xm_pi fun c h => xm_Call K sX9_law 9 [.ref 44] h (xm_pi fun c' h' => g c c' h')) := by
  obtain ⟨t, t1, t2, t3, t4⟩ := hI.2.2.1
  obtain ⟨sg, hsg⟩ : ∃ sg : Nat → Nat, ∀ k, sg k = if k < t then (A 14 k).toNatClampNeg else 999 := ⟨_, fun _ => rfl⟩
  have hsg1 : ∀ k, k < t → sg k < 256 ∧ A 14 k = Int32.ofNat (sg k) ∧ A 58 k = byI (sg k) := fun k hk => by
    obtain ⟨b, b1, b2, b3⟩ := t4 k hk
    have e : sg k = b := by rw [hsg, if_pos hk, b2, xs_tn (by omega)]
    rw [e]; exact ⟨b1, b2, b3⟩
  have hTp : Tp sg t := fun k => ⟨fun hk => (hsg1 k hk).1, fun hk => by rw [hsg, if_neg (by omega)]⟩
  have hTC : TpC A sg t := ⟨t1, hTp, fun k hk => (hsg1 k hk).2.1⟩
  refine eX8_law (K := 85) (by omega) ⟨_, rfl⟩ ⟨_, rfl, eX3_readText (K := 84) (by omega) ⟨_, rfl⟩ ⟨_, p_13_2, _, p_13_4, ?_⟩⟩
  refine c_text (sg := sg) (F := F) hTC (by omega) (t + 1) 0 [] 0 _ _ _ (Nat.zero_le _) (by omega) (Nat.le_refl _) (Nat.le_refl _) ?_ (fun ls A2 F2 z r2 h1 => ?_) (fun A2 F2 z rf hp => ?_)
  · refine ⟨Ag.rf, Ag.up (Ag.up Ag.rf (by simp)) (by simp), ?_, ?_, ?_, fun k hk => absurd hk (by show ¬ k < 0; omega)⟩
    · rw [u_eq, u_ne (by omega), u_eq, u_ne (by omega)]; exact t2
    · rw [u_eq, u_ne (by omega), u_eq, u_eq]; rfl
    · rw [u_eq, u_eq]; rfl
  · try dsimp only
    obtain ⟨r2a, r2b, r2c, r2d, r2e, r2f⟩ := r2
    refine ⟨_, rfl, _, p_13_1, ?_⟩
    rw [if_neg (by decide)]
    refine ⟨_, rfl, _, rfl, _, rfl, _, rfl, _, rfl, _, rfl, ?_⟩
    rw [show va_up F2 13 (va_up (F2 13) 1 0) 13 4 = Int32.ofNat (cdL [] ls).length by rw [u_eq, u_ne (by omega)]; exact r2e]
    obtain ⟨hne, hgd⟩ := txR_gd hTp t1 (t + 1) 0 [] (Nat.zero_le _) (fun _ h => absurd h (by simp)) ls z
    have hpos := cdL_pos hne
    refine c_become (by omega) (by omega) (xm_pi_i ?_)
    generalize hA3 : va_up A2 7 (va_cpy (A2 15) (A2 7) 0 0 (cdL [] ls).length) = A3
    generalize hF3 : va_up (va_up F2 13 (va_up (F2 13) 1 0)) 6 (va_up (va_up F2 13 (va_up (F2 13) 1 0) 6) 1 (Int32.ofNat (cdL [] ls).length)) = F3
    have a3 : Ag [7, 15] A A3 := by rw [← hA3]; exact Ag.up (r2a.mono (by simp)) (by simp)
    have f3 : Ag [6, 13] F F3 := by rw [← hF3]; exact Ag.up (Ag.up (r2b.mono (by simp)) (by simp)) (by simp)
    have f6 : F3 6 1 = Int32.ofNat (cdL [] ls).length := by rw [← hF3, u_eq, u_eq]
    have f13 : F3 13 1 = 0 := by rw [← hF3, u_ne (by omega), u_eq, u_eq]
    have c7 : CdC (A3 7) (cdL [] ls).length ls 0 := cd_of ls [] (fun k hk => by
      rw [← hA3, u_eq, ← r2f k hk, va_cpy, if_pos ⟨Nat.zero_le _, by omega⟩]
      congr 1
      omega)
    refine eX9_law (K := 85) (by omega) ⟨_, rfl⟩ (m_read0 (sg := sg) (t := t) (by omega) ⟨t1, hTp, fun k hk => by rw [a3 58 (by simp)]; exact (hsg1 k hk).2.2⟩ (by rw [f3 44 (by simp)]; exact t3) (fun ls' A4 F4 z' a4 d4 f4 f5 f18 => ?_) (fun A4 F4 z' => absurd (z'.symm.trans z) (by intro q; cases q)))
    have e := Option.some.inj (z'.symm.trans z)
    subst e
    try dsimp only
    rw [if_pos (by decide)]
    refine ⟨_, p_44_30, xm_pi_i (H _ _ _ _ _ _ _ (INV.law (tc' := evLs ls') hI (fun k hk => ?_) (Ag.up (fun k hk => ?_) (by simp)) (fun k hk => ?_) ?_ ?_ (TXok_of (N := (cdL [] ls').length) ?_ hpos h1 ?_ hgd) (TXm_of ?_ d4 hgd)))⟩
    · simp at hk
      rw [a4 k (by simp; omega), a3 k (by simp; omega)]
    · simp at hk
      rw [f4 k (by simp; omega), f3 k (by simp; omega)]
    · simp at hk
      rw [u_eq, u_ne (by omega), f5 k (by simp; omega), f3 44 (by simp)]
    · rw [u_ne (by omega), f4 13 (by simp)]; exact f13
    · rw [u_eq, u_ne (by omega)]; exact f18
    · rw [u_ne (by omega), f4 6 (by simp)]; exact f6
    · rw [a4 7 (by simp)]; exact c7
    · rw [u_eq, u_eq]; decide
  · try dsimp only
    obtain ⟨r2a, r2b, r2c, r2d, r2e⟩ := rf
    refine ⟨_, rfl, _, p_13_1, ?_⟩
    rw [if_pos rfl]
    refine ⟨_, rfl, _, rfl, xm_pi_i ?_⟩
    rw [show va_up F2 13 (va_up (F2 13) 1 0) 13 2 = Int32.ofNat (txR sg t (t + 1) 0 []).1 by rw [u_eq, u_ne (by omega)]; exact r2d]
    generalize hF3 : va_up F2 13 (va_up (F2 13) 1 0) = F3
    have f3 : Ag [13] F F3 := by rw [← hF3]; exact Ag.up r2b (by simp)
    have f13 : F3 13 1 = 0 := by rw [← hF3, u_eq, u_eq]
    refine eX9_law (K := 85) (by omega) ⟨_, rfl⟩ (m_read0 (sg := sg) (t := t) (by omega) ⟨t1, hTp, fun k hk => by rw [r2a 58 (by simp)]; exact (hsg1 k hk).2.2⟩ (by rw [f3 44 (by simp)]; exact t3) (fun ls' A4 F4 z' => absurd (z'.symm.trans z) (by intro q; cases q)) (fun A4 F4 z' a4 b1 b2 b3 b4 f4 f5 f18 hle => ?_))
    try dsimp only
    rw [if_neg (xs_nn (by omega))]
    refine xm_pi_i (H _ _ _ _ _ _ _ (INV.law (tc' := tc) hI (fun k hk => ?_) (fun k hk => ?_) (fun k hk => ?_) ?_ f18 (hI.1.2.1.to ?_ ?_) (hI.1.2.2.lo (fun k hk => ?_) ?_ (fun k hk => ?_) (fun k hk => ?_) ?_)))
    · simp at hk
      rw [a4 k (by simp; omega), r2a k (by simp; omega)]
    · simp at hk
      rw [f4 k (by simp; omega), f3 k (by simp; omega)]
    · simp at hk
      rw [f5 k (by simp; omega), f3 44 (by simp)]
    · rw [f4 13 (by simp)]; exact f13
    · rw [a4 7 (by simp), r2a 7 (by simp)]
    · rw [f4 6 (by simp), f3 6 (by simp)]
    · rw [(b1 k hk).1, (b1 k hk).2, r2a 59 (by simp), r2a 60 (by simp)]; exact ⟨rfl, rfl⟩
    · rw [b2, r2a 61 (by simp)]
    · rw [b3 k hk, r2a 62 (by simp)]
    · rw [b4 k hk, r2a 63 (by simp)]
    · rw [f5 30 (by simp), f3 44 (by simp)]
end TXF
