section DDB
variable {A : Nat → Nat → Int32} {L : Nat → Nat → Int64} {F : Nat → Nat → Int32} {g : Int32 → Int32 → xm_H → Prop} {gv : xm_H → Prop} {w n p k j y e m r o a d K nb : Nat} {x x1 x2 x3 v z : Int32} {h : xm_H} {tc : (Nat → Int32) → Int32} {c : Nat → Int32}
/-- all stands, if what is not of the world stands as before -/
theorem INV.re {A' F' : Nat → Nat → Int32} {n' : Nat} (hI : INV A L F n nb tc) (hB : Bs A' F' n') (hA : ∀ k, k ∈ [7, 59, 60, 61, 62, 63, 14, 58, 29, 30, 75, 76, 77, 78] → A' k = A k) (hF : ∀ k, k ∈ [6, 13, 28, 32, 34, 36, 38, 40, 42] → F' k = F k) (hF4 : ∀ k, k ∈ [18, 30, 50, 52] → F' 44 k = F 44 k) (hC : ChR A' F' n') (hL : LdR A') (hM : ImR A' F' n') : INV A' L F' n' nb tc := by
  obtain ⟨⟨b, t1, t2⟩, -, d1, d2, d3⟩ := hI
  refine ⟨⟨hB, t1.to (hA 7 (by simp)) (hF 6 (by simp)), ?_⟩, ⟨hC, hL, hM⟩, d1.to ⟨hA 14 (by simp), hA 58 (by simp)⟩ ⟨by rw [hF 13 (by simp)], hF4 18 (by simp)⟩, d2.to ⟨hA 29 (by simp), hA 30 (by simp), hA 75 (by simp), hA 76 (by simp)⟩ ⟨by rw [hF 28 (by simp)], by rw [hF 28 (by simp)], hF4 50 (by simp), hF4 52 (by simp)⟩, d3.to ⟨hA 77 (by simp), hA 78 (by simp)⟩ (fun s hs => hF _ (by rcases (show s = 0 ∨ s = 1 ∨ s = 2 ∨ s = 3 ∨ s = 4 ∨ s = 5 by omega) with rfl | rfl | rfl | rfl | rfl | rfl <;> simp))⟩
  rcases t2 with ⟨a, b⟩ | ⟨a, b⟩
  · exact Or.inl ⟨by rw [hF4 30 (by simp)]; exact a, b⟩
  · exact Or.inr ⟨by rw [hF4 30 (by simp)]; exact a, fun B M G g c1 c2 c3 c4 c5 c6 => b B M G g (fun k hk => (c1 k hk).trans (congrFun (hA 59 (by simp)) k)) (fun k hk => (c2 k hk).trans (congrFun (hA 60 (by simp)) k)) (c3.trans (congrFun (hA 61 (by simp)) 0)) (fun k hk => (c4 k hk).trans (congrFun (hA 62 (by simp)) k)) (fun k hk => (c5 k hk).trans (congrFun (hA 63 (by simp)) k)) c6⟩
theorem st_of (hK : 40 ≤ K) (hI : INV A L F n nb tc) (H : Fin2 g) : xm_Call K sX8_of 8 [.ref 0, .int x1, .int x2] (HP A L F) (xm_pi fun c h => xm_Call K sX9_of 9 [.ref 44, .int x1, .int x2] h (xm_pi fun c' h' => g c c' h')) := by
  have hI0 := hI
  obtain ⟨⟨⟨⟨c1, c2, c3⟩, -, -, -, b7⟩, -⟩, -⟩ := hI0
  refine eX8_of (K := 3) (by omega) ⟨_, rfl⟩ ⟨_, rfl, c_cellAny (n := n) (by omega) c1 c3 (fun o a hp e1 e2 => ?_) (fun hno => ?_)⟩
  · have hx := plc_x c3 hp
    have hc := cel_lt hx
    rw [if_neg (xs_nn (by omega))]
    refine ⟨_, rfl, _, rfl, _, ln_2 hc, xm_pi_i ?_⟩
    refine eX9_of (K := 3) (by omega) ⟨_, rfl⟩ (m_isPlace (n := n) (by omega) c2 c3 (fun o' a' hp' e1' e2' => ?_) (fun hno => (hno o a hp e1 e2).elim))
    rw [if_neg (by decide), e1, e2]
    refine m_valueAt (by omega) hx (xm_pi_i ?_)
    rw [b7 o a hx]
    exact H _ _ _ _ _ _ _ hI
  · rw [if_pos (by decide)]
    refine xm_pi_i (eX9_of (K := 3) (by omega) ⟨_, rfl⟩ (m_isPlace (n := n) (by omega) c2 c3 (fun o' a' hp' e1' e2' => (hno o' a' hp' e1' e2').elim) (fun _ => ?_)))
    rw [if_pos rfl]
    exact xm_pi_i (H _ _ _ _ _ _ _ hI)
/-! a change is noted -/
def mn9 (d : Nat) : Nat := if d < 40 then d else 39
theorem cp_39 (f : Nat → Int32) (hk : k < 39) : va_cpy f f 1 0 39 k = f (k + 1) := by
  unfold va_cpy
  rw [if_pos ⟨by omega, by omega⟩]
  congr 1
  omega
/-- of the changes noted: the last d' of the d, and one more -/
def NtR (A A' : Nat → Nat → Int32) (d : Nat) (l : List Nat) (v : Nat → Int32) : Prop := ∀ i, i ∈ l → (∀ k, k < mn9 d → A' i k = A i (k + (d - mn9 d))) ∧ A' i (mn9 d) = v i
theorem c_note (hK : 1 < K) (hd : d ≤ 40) (h3 : F 16 3 = Int32.ofNat d) (H : ∀ A' F', Ag [17, 18, 19] A A' → Ag [16] F F' → F' 16 3 = Int32.ofNat (mn9 d + 1) → F' 16 4 = Int32.ofNat (mn9 d + 1) → NtR A A' d [17, 18, 19] (fun i => if i = 17 then x1 else if i = 18 then x2 else x3) → gv (HP A' L F')) : xm_Call K sX2_note 2 [.ref 16, .int x1, .int x2, .int x3] (HP A L F) (xm_pv gv) := by
  refine eX2_note (K := 1) hK ⟨_, rfl⟩ ⟨_, rfl, ?_⟩
  rw [h3]
  by_cases h40 : d < 40
  · have hm : mn9 d = d := if_pos h40
    rw [if_pos (show Int32.ofNat d < (40 : Int32) from (n_lt (q := 40) (by omega) (by omega)).mpr h40)]
    refine ⟨_, rfl, _, rfl, _, by rw [h3]; exact sn_17 h40, _, rfl, _, rfl, _, by rw [h3]; exact sn_18 h40, _, rfl, _, rfl, _, by rw [h3]; exact sn_19 h40, _, rfl, _, p_16_3, _, rfl, _, p_16_4, xm_pv_i (H _ _ (Ag.up (Ag.up (Ag.up Ag.rf (by simp)) (by simp)) (by simp)) (Ag.up (Ag.up Ag.rf (by simp)) (by simp)) ?_ ?_ ?_)⟩
    · show F 16 3 + 1 = _
      rw [h3, n_succ, hm]
    · show F 16 3 + 1 = _
      rw [h3, n_succ, hm]
    · rw [NtR, hm]
      intro i hi
      simp at hi
      rcases hi with rfl | rfl | rfl
      · exact ⟨fun k hk => by show upd (A 17) d x1 k = _; rw [p_ne (by omega)]; congr 1; omega, p_eq⟩
      · exact ⟨fun k hk => by show upd (A 18) d x2 k = _; rw [p_ne (by omega)]; congr 1; omega, p_eq⟩
      · exact ⟨fun k hk => by show upd (A 19) d x3 k = _; rw [p_ne (by omega)]; congr 1; omega, p_eq⟩
  · have hd4 : d = 40 := by omega
    subst hd4
    have hm : mn9 40 = 39 := rfl
    rw [if_neg (by decide)]
    refine eX2_forgetOldest (K := 0) (by omega) ⟨_, rfl⟩ ⟨_, rfl, _, rfl, HP (va_up A 17 (va_cpy (A 17) (A 17) 1 0 39)) L F, rfl, _, rfl, _, rfl, HP (va_up (va_up A 17 (va_cpy (A 17) (A 17) 1 0 39)) 18 (va_cpy (A 18) (A 18) 1 0 39)) L F, rfl, _, rfl, _, rfl, HP (va_up (va_up (va_up A 17 (va_cpy (A 17) (A 17) 1 0 39)) 18 (va_cpy (A 18) (A 18) 1 0 39)) 19 (va_cpy (A 19) (A 19) 1 0 39)) L F, rfl, _, p_16_3, xm_pv_i ?_⟩
    refine ⟨_, rfl, _, rfl, _, sn_17 (j := 39) (by omega), _, rfl, _, rfl, _, sn_18 (j := 39) (by omega), _, rfl, _, rfl, _, sn_19 (j := 39) (by omega), _, rfl, _, p_16_3, _, rfl, _, p_16_4, xm_pv_i (H _ _ (Ag.up (Ag.up (Ag.up (Ag.up (Ag.up (Ag.up Ag.rf (by simp)) (by simp)) (by simp)) (by simp)) (by simp)) (by simp)) (Ag.up (Ag.up (Ag.up Ag.rf (by simp)) (by simp)) (by simp)) rfl rfl ?_)⟩
    rw [NtR, hm]
    intro i hi
    simp at hi
    rcases hi with rfl | rfl | rfl
    · exact ⟨fun k hk => by show upd (va_cpy (A 17) (A 17) 1 0 39) 39 x1 k = _; rw [p_ne (by omega), cp_39 _ hk], by show upd (va_cpy (A 17) (A 17) 1 0 39) 39 x1 39 = _; rw [p_eq]; rfl⟩
    · exact ⟨fun k hk => by show upd (va_cpy (A 18) (A 18) 1 0 39) 39 x2 k = _; rw [p_ne (by omega), cp_39 _ hk], by show upd (va_cpy (A 18) (A 18) 1 0 39) 39 x2 39 = _; rw [p_eq]; rfl⟩
    · exact ⟨fun k hk => by show upd (va_cpy (A 19) (A 19) 1 0 39) 39 x3 k = _; rw [p_ne (by omega), cp_39 _ hk], by show upd (va_cpy (A 19) (A 19) 1 0 39) 39 x3 39 = _; rw [p_eq]; rfl⟩
/-- the reference: something becomes another -/
theorem m_changes {g : Int32 → xm_H → Prop} (hK : 1 < K) (hd : d ≤ 40) (h11 : F 44 11 = Int32.ofNat d) (hx : plx o a) (hv : A (mC o) (mI o a) = z) (H0 : z = v → g z (HP A L F)) (H : ¬ z = v → ∀ A' F', Ag [mC o, 54, 55, 56, 57] A A' → A' (mC o) = upd (A (mC o)) (mI o a) v → Ag [44] F F' → (∀ k, k ≠ 11 → k ≠ 12 → F' 44 k = F 44 k) → F' 44 11 = Int32.ofNat (mn9 d + 1) → F' 44 12 = 0 → NtR A A' d [54, 55, 56, 57] (fun i => if i = 54 then Int32.ofNat o else if i = 55 then Int32.ofNat a else if i = 56 then z else v) → g z (HP A' L F')) : xm_Call K sX9_changes 9 [.ref 44, .int (Int32.ofNat o), .int (Int32.ofNat a), .int v] (HP A L F) (xm_pi g) := by
  have hm5 := mC_ge (o := o)
  have ho : o ≤ 10 := by unfold plx at hx; omega
  have hm53 := hm5.2 ho
  refine eX9_changes (K := 1) hK ⟨_, rfl⟩ (m_valueAt (by omega) hx ?_)
  rw [hv]
  by_cases hzv : z = v
  · rw [if_pos hzv]; exact xm_pi_i (H0 hzv)
  · rw [if_neg hzv]
    have hh := H hzv
    refine ⟨_, p_44_12, _, rfl, ?_⟩
    rw [show va_up F 44 (va_up (F 44) 12 0) 44 11 = Int32.ofNat d from h11]
    by_cases h40 : d < 40
    · have hm : mn9 d = d := if_pos h40
      rw [if_neg (show ¬ Int32.ofNat d = (40 : Int32) from fun q => absurd ((n_eq (q := 40) (by omega) (by omega)).mp q) (by omega))]
      refine ⟨_, rfl, Int32.ofNat d, by rw [← h11]; rfl, _, sn_54 h40, _, rfl, Int32.ofNat d, by rw [← h11]; rfl, _, sn_55 h40, _, rfl, Int32.ofNat d, by rw [← h11]; rfl, _, sn_56 h40, _, rfl, Int32.ofNat d, by rw [← h11]; rfl, _, sn_57 h40, Int32.ofNat d, by rw [← h11]; rfl, _, p_44_11, ?_⟩
      refine m_lays (by omega) hx (xm_pi_i (hh _ _ ?_ ?_ (Ag.up (Ag.up Ag.rf (by simp)) (by simp)) (fun k k1 k2 => by rw [u_eq, u_ne k1, u_eq, u_ne k2]) (by rw [u_eq, u_eq, n_succ, hm]) rfl ?_))
      · exact Ag.up (Ag.up (Ag.up (Ag.up (Ag.up Ag.rf (by simp)) (by simp)) (by simp)) (by simp)) (by simp)
      · rw [u_eq, u_ne (by omega), u_ne (by omega), u_ne (by omega), u_ne (by omega)]
      · rw [NtR, hm]
        intro i hi
        simp at hi
        have hne : i ≠ mC o := by rcases hi with rfl | rfl | rfl | rfl <;> omega
        rw [u_ne hne]
        rcases hi with rfl | rfl | rfl | rfl
        · exact ⟨fun k hk => by show upd (A 54) d _ k = _; rw [p_ne (by omega)]; congr 1; omega, p_eq⟩
        · exact ⟨fun k hk => by show upd (A 55) d _ k = _; rw [p_ne (by omega)]; congr 1; omega, p_eq⟩
        · exact ⟨fun k hk => by show upd (A 56) d _ k = _; rw [p_ne (by omega)]; congr 1; omega, p_eq⟩
        · exact ⟨fun k hk => by show upd (A 57) d _ k = _; rw [p_ne (by omega)]; congr 1; omega, p_eq⟩
    · have hd4 : d = 40 := by omega
      subst hd4
      have hm : mn9 40 = 39 := rfl
      rw [if_pos (show Int32.ofNat 40 = (40 : Int32) from rfl)]
      have key := xm_for (n := 39) (Q := fun i h => xm_L 1 sX9_changes kX9_changes 19 [some (.ref 44), some (.int (Int32.ofNat o)), some (.int (Int32.ofNat a)), some (.int v), some (.int z), some (.int (Int32.ofNat (i + 1)))] [] h (xm_pi g)) (fun i h => ∃ A', h = HP A' L (va_up F 44 (va_up (F 44) 12 0)) ∧ Ag [54, 55, 56, 57] A A' ∧ ∀ t, t ∈ [54, 55, 56, 57] → ∀ k, A' t k = if k < i then A t (k + 1) else A t k) ?_ ?_ 0 _ (Nat.zero_le _) ⟨A, rfl, Ag.rf, fun t _ k => by rw [if_neg (by omega)]⟩
      · exact key
      · rintro i h hi ⟨A1, rfl, a1, a2⟩ ih
        refine xX9_changes_19 ?_
        rw [if_pos (show Int32.ofNat (i + 1) < (40 : Int32) from (n_lt (q := 40) (by omega) (by omega)).mpr (by omega)), n_pred, n_succ]
        refine ⟨_, rfl, _, rfl, _, ln_54 (by omega), _, sn_54 (by omega), _, rfl, _, rfl, _, ln_55 (by omega), _, sn_55 (by omega), _, rfl, _, rfl, _, ln_56 (by omega), _, sn_56 (by omega), _, rfl, _, rfl, _, ln_57 (by omega), _, sn_57 (by omega), ?_⟩
        refine ih _ ⟨_, rfl, Ag.up (Ag.up (Ag.up (Ag.up a1 (by simp)) (by simp)) (by simp)) (by simp), fun t ht k => ?_⟩
        have sh : ∀ f : Nat → Int32, (∀ k, f k = if k < i then A t (k + 1) else A t k) → upd f i (f (i + 1)) k = if k < i + 1 then A t (k + 1) else A t k := by
          intro f hf
          by_cases hk : k = i
          · subst hk; rw [p_eq, hf, if_neg (by omega), if_pos (by omega)]
          · rw [p_ne hk, hf]
            by_cases hk2 : k < i
            · rw [if_pos hk2, if_pos (by omega)]
            · rw [if_neg hk2, if_neg (by omega)]
        have hf := a2 t ht
        simp at ht
        rcases ht with rfl | rfl | rfl | rfl
        · exact sh (A1 54) hf
        · exact sh (A1 55) hf
        · exact sh (A1 56) hf
        · exact sh (A1 57) hf
      · rintro h ⟨A1, rfl, a1, a2⟩
        refine xX9_changes_19 ?_
        rw [if_neg (by decide)]
        refine ⟨Int32.ofNat 40, by rw [← h11]; rfl, _, p_44_11, ?_⟩
        rw [show Int32.ofNat 40 - 1 = Int32.ofNat 39 from rfl]
        refine ⟨_, rfl, Int32.ofNat 39, rfl, _, sn_54 (by omega), _, rfl, Int32.ofNat 39, rfl, _, sn_55 (by omega), _, rfl, Int32.ofNat 39, rfl, _, sn_56 (by omega), _, rfl, Int32.ofNat 39, rfl, _, sn_57 (by omega), Int32.ofNat 39, rfl, _, p_44_11, ?_⟩
        refine m_lays (by omega) hx (xm_pi_i (hh _ _ ?_ ?_ (Ag.up (Ag.up (Ag.up Ag.rf (by simp)) (by simp)) (by simp)) (fun k k1 k2 => by rw [u_eq, u_ne k1, u_eq, u_ne k1, u_eq, u_ne k2]) (by rw [u_eq, u_eq]; rfl) rfl ?_))
        · exact Ag.up (Ag.up (Ag.up (Ag.up (Ag.up (a1.mono (fun k hk => by simp at hk ⊢; omega)) (by simp)) (by simp)) (by simp)) (by simp)) (by simp)
        · rw [u_eq, u_ne (by omega), u_ne (by omega), u_ne (by omega), u_ne (by omega), a1 (mC o) (by simp; omega)]
        · rw [NtR, hm]
          intro i hi
          have hf := a2 i hi
          simp at hi
          have hne : i ≠ mC o := by rcases hi with rfl | rfl | rfl | rfl <;> omega
          rw [u_ne hne]
          rcases hi with rfl | rfl | rfl | rfl
          · exact ⟨fun k hk => by show upd (A1 54) 39 _ k = _; rw [p_ne (by omega), hf, if_pos (by omega)], by show upd (A1 54) 39 _ 39 = _; rw [p_eq]; rfl⟩
          · exact ⟨fun k hk => by show upd (A1 55) 39 _ k = _; rw [p_ne (by omega), hf, if_pos (by omega)], by show upd (A1 55) 39 _ 39 = _; rw [p_eq]; rfl⟩
          · exact ⟨fun k hk => by show upd (A1 56) 39 _ k = _; rw [p_ne (by omega), hf, if_pos (by omega)], by show upd (A1 56) 39 _ 39 = _; rw [p_eq]; rfl⟩
          · exact ⟨fun k hk => by show upd (A1 57) 39 _ k = _; rw [p_ne (by omega), hf, if_pos (by omega)], by show upd (A1 57) 39 _ 39 = _; rw [p_eq]; rfl⟩
end DDB
