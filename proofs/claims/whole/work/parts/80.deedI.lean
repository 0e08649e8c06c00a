section DDI
variable {A : Nat → Nat → Int32} {L : Nat → Nat → Int64} {F : Nat → Nat → Int32} {gv : xm_H → Prop} {w n p k j y e m r o a d u K nb km : Nat} {x x1 x2 x3 v z : Int32} {h : xm_H} {tc : (Nat → Int32) → Int32} {c : Nat → Int32}
def frsI (o : Nat) : Int32 := match o with
  | 0 => 5
  | 1 => 100
  | 2 => 30
  | 5 => 1
  | 6 => 10
  | 7 => 20
  | 9 => 10
  | 10 => 10
  | _ => 0
theorem st_f (ho : o ≤ 10) : xm_ld xm_st (HP A L F) 0 (1000 + 2) (Int32.ofNat o) = some (frsI o) := by
  rcases (show o = 0 ∨ o = 1 ∨ o = 2 ∨ o = 3 ∨ o = 4 ∨ o = 5 ∨ o = 6 ∨ o = 7 ∨ o = 8 ∨ o = 9 ∨ o = 10 by omega) with rfl | rfl | rfl | rfl | rfl | rfl | rfl | rfl | rfl | rfl | rfl <;> rfl
/-- what one who comes has of number o -/
def jv (o : Nat) (x1 x2 x3 : Int32) : Int32 := if o = 3 then x3 else if o = 2 then x2 else if o = 0 then x1 else frsI o
def jnS (c : Nat → Int32) (n : Nat) (x1 x2 x3 : Int32) (k : Nat) : Int32 := if k % 8 = n ∧ k < 56 then jv (k / 8) x1 x2 x3 else c k
theorem jnS_o (hn : n < 8) (ho : o ≤ 6) (ha : a < 8) : jnS c n x1 x2 x3 (8 * o + a) = if a = n then jv o x1 x2 x3 else c (8 * o + a) := by
  unfold jnS
  by_cases e : a = n
  · rw [if_pos ⟨by omega, by omega⟩, if_pos e, show (8 * o + a) / 8 = o by omega]
  · rw [if_neg (by omega), if_neg e]
theorem jnS_h (hk : 56 ≤ k) : jnS c n x1 x2 x3 k = c k := by unfold jnS; rw [if_neg (by omega)]
theorem c_join {g : Int32 → xm_H → Prop} (hK : 2 < K) (c1 : F 1 1 = Int32.ofNat n) (c3 : n ≤ 8) (H : n < 8 → ∀ A', Ag [2] A A' → A' 2 = jnS (A 2) n x1 x2 x3 → g 1 (HP A' L (va_up F 1 (va_up (F 1) 1 (Int32.ofNat (n + 1)))))) (H2 : n = 8 → g 0 (HP A L F)) : xm_Call K sX7_join 7 [.ref 1, .int x1, .int x2, .int x3] (HP A L F) (xm_pi g) := by
  have hw : isW 1 := Or.inl rfl
  refine eX7_join (K := 2) hK ⟨_, rfl⟩ ⟨_, rfl, ?_⟩
  rw [c1]
  by_cases h8 : n < 8
  · rw [if_pos (show Int32.ofNat n < (8 : Int32) from (n_lt (q := 8) (by omega) (by omega)).mpr h8)]
    refine ⟨_, rfl, _, p_1_1, ?_⟩
    rw [c1, n_succ]
    generalize hG : va_up F 1 (va_up (F 1) 1 (Int32.ofNat (n + 1))) = G
    have g1 : G 1 1 = Int32.ofNat (n + 1) := by rw [← hG, u_eq, u_eq]
    have h9 := H h8
    rw [hG] at h9
    refine xm_for (n := 7) (Q := fun p h => xm_L 2 sX7_join kX7_join 14 [some (.ref 1), some (.int x1), some (.int x2), some (.int x3), some (.int (Int32.ofNat p))] [] h (xm_pi g)) (fun p h => ∃ A', h = HP A' L G ∧ Ag [2] A A' ∧ ∀ k, A' 2 k = if k % 8 = n ∧ k < 8 * p then frsI (k / 8) else A 2 k) ?_ ?_ 0 _ (Nat.zero_le _) ⟨A, rfl, Ag.rf, fun k => by rw [if_neg (by omega)]⟩
    · rintro p h hp ⟨A1, rfl, h1, h2⟩ ih
      refine xX7_join_14 ?_
      rw [if_neg (show ¬ (6 : Int32) < Int32.ofNat p from n_ge (p := 6) (by omega) (by omega) (by omega))]
      refine ⟨_, rfl, _, st_f (by omega), ?_⟩
      rw [g1, n_pred, n_succ]
      refine c_set (n := n + 1) (by omega) hw g1 (by omega) (by omega) hp (ih _ ⟨_, rfl, Ag.up h1 (by simp), fun k => ?_⟩)
      show upd (A1 2) (8 * p + n) (frsI p) k = _
      by_cases e : k = 8 * p + n
      · subst e
        rw [p_eq, if_pos ⟨by omega, by omega⟩, show (8 * p + n) / 8 = p by omega]
      · rw [p_ne e, h2 k]
        by_cases e2 : k % 8 = n ∧ k < 8 * p
        · rw [if_pos e2, if_pos ⟨e2.1, by omega⟩]
        · rw [if_neg e2, if_neg (by omega)]
    · rintro h ⟨A1, rfl, h1, h2⟩
      refine xX7_join_14 ?_
      rw [if_pos (by decide)]
      refine ⟨_, rfl, ?_⟩
      rw [g1, n_pred]
      refine c_set (n := n + 1) (k := 0) (by omega) hw g1 (by omega) (by omega) (by omega) ⟨_, rfl, ?_⟩
      rw [g1, n_pred]
      refine c_set (n := n + 1) (k := 2) (by omega) hw g1 (by omega) (by omega) (by omega) ⟨_, rfl, ?_⟩
      rw [g1, n_pred]
      refine c_set (n := n + 1) (k := 3) (by omega) hw g1 (by omega) (by omega) (by omega) (xm_pi_i (h9 _ (Ag.up (Ag.up (Ag.up h1 (by simp)) (by simp)) (by simp)) (funext fun k => ?_)))
      show upd (upd (upd (A1 2) (8 * 0 + n) x1) (8 * 2 + n) x2) (8 * 3 + n) x3 k = _
      unfold jnS jv
      by_cases e3 : k = 8 * 3 + n
      · subst e3
        rw [p_eq, if_pos ⟨by omega, by omega⟩, if_pos (by omega)]
      rw [p_ne e3]
      by_cases e2 : k = 8 * 2 + n
      · subst e2
        rw [p_eq, if_pos ⟨by omega, by omega⟩, if_neg (by omega), if_pos (by omega)]
      rw [p_ne e2]
      by_cases e1 : k = 8 * 0 + n
      · subst e1
        rw [p_eq, if_pos ⟨by omega, by omega⟩, if_neg (by omega), if_neg (by omega), if_pos (by omega)]
      rw [p_ne e1, h2 k]
      by_cases e0 : k % 8 = n ∧ k < 56
      · rw [if_pos ⟨e0.1, by omega⟩, if_pos e0, if_neg (by omega), if_neg (by omega), if_neg (by omega)]
      · rw [if_neg (by omega), if_neg e0]
  · rw [if_neg (show ¬ Int32.ofNat n < (8 : Int32) from n_ge (q := 8) (by omega) (by omega) (by omega))]
    exact xm_pi_i (H2 (by omega))
theorem m_addOne {g : Int32 → xm_H → Prop} (hK : 0 < K) (c2 : F 44 1 = Int32.ofNat n) (h8 : n < 8) (H : ∀ A', Ag [45, 46, 47, 48, 50, 51] A A' → (∀ o, o ≤ 6 → o ≠ 4 → A' (45 + o) = upd (A (45 + o)) n (jv o x1 x2 x3)) → g (Int32.ofNat n) (HP A' L (va_up F 44 (va_up (F 44) 1 (Int32.ofNat (n + 1)))))) : xm_Call K sX9_addOne 9 [.ref 44, .int x1, .int x2, .int x3] (HP A L F) (xm_pi g) := by
  refine eX9_addOne (K := 0) hK ⟨_, rfl⟩ ⟨_, rfl, _, rfl, ?_⟩
  rw [c2]
  refine ⟨_, sn_45 h8, _, rfl, _, rfl, ?_⟩
  rw [c2]
  refine ⟨_, sn_46 h8, _, rfl, _, rfl, ?_⟩
  rw [c2]
  refine ⟨_, sn_47 h8, _, rfl, _, rfl, ?_⟩
  rw [c2]
  refine ⟨_, sn_48 h8, _, rfl, _, rfl, ?_⟩
  rw [c2]
  refine ⟨_, sn_50 h8, _, rfl, _, rfl, ?_⟩
  rw [c2]
  refine ⟨_, sn_51 h8, _, rfl, _, p_44_1, _, rfl, xm_pi_i ?_⟩
  rw [u_eq, u_eq, c2, n_succ, n_pred]
  refine H _ (Ag.up (Ag.up (Ag.up (Ag.up (Ag.up (Ag.up Ag.rf (by simp)) (by simp)) (by simp)) (by simp)) (by simp)) (by simp)) (fun o h1 h2 => ?_)
  rcases (show o = 0 ∨ o = 1 ∨ o = 2 ∨ o = 3 ∨ o = 5 ∨ o = 6 by omega) with rfl | rfl | rfl | rfl | rfl | rfl <;> rfl
/-- the world's half of what stands, and the reference's -/
def CH (c : Nat → Int32) (n : Nat) : Prop := Zr c ∧ (∀ o a, plc n o a → mayV o (c (cel o a))) ∧ ∀ o a, o < 7 → n ≤ a → a < 8 → c (8 * o + a) = 0
def RH (A : Nat → Nat → Int32) (c : Nat → Int32) : Prop := ∀ o a, plx o a → A (mC o) (mI o a) = c (cel o a)
theorem Bs.ch (hB : Bs A F n) : CH (A 2) n := ⟨hB.2.1.1, hB.2.2.1, hB.2.2.2.1⟩
theorem CH.join (hC : CH c n) (hn : n < 8) (h1 : mayV 0 x1) (h2 : mayV 2 x2) (h3 : mayV 3 x3) : CH (jnS c n x1 x2 x3) (n + 1) := by
  obtain ⟨a1, a2, a3⟩ := hC
  refine ⟨fun k hk => by rw [jnS_h (by omega)]; exact a1 k hk, fun o a hp => ?_, fun o a k1 k2 k3 => ?_⟩
  · by_cases ho : o ≤ 6
    · have ha : a < 8 := by unfold plc at hp; omega
      rw [cel_o (by omega), jnS_o hn ho ha]
      by_cases e : a = n
      · rw [if_pos e]
        rcases (show o = 0 ∨ o = 1 ∨ o = 2 ∨ o = 3 ∨ o = 4 ∨ o = 5 ∨ o = 6 by omega) with rfl | rfl | rfl | rfl | rfl | rfl | rfl
        · exact h1
        · show mayV 1 100; exact ⟨by decide, by decide⟩
        · exact h2
        · exact h3
        · show mayV 4 0; exact ⟨by decide, by decide⟩
        · show mayV 5 1; exact ⟨by decide, by decide⟩
        · show mayV 6 10; exact ⟨by decide, by decide⟩
      · rw [if_neg e, ← cel_o (o := o) (by omega)]
        exact a2 o a (by unfold plc at *; omega)
    · have hc : 56 ≤ cel o a := by unfold plc at hp; unfold cel; split <;> omega
      rw [jnS_h hc]
      exact a2 o a (by unfold plc at *; omega)
  · rw [jnS_o hn (by omega) k3, if_neg (by omega)]
    exact a3 o a k1 (by omega) k3
theorem RH.join {A' : Nat → Nat → Int32} (hR : RH A c) (hn : n < 8) (h0 : c (32 + n) = 0) (s : Ag [45, 46, 47, 48, 50, 51] A A') (hA : ∀ o, o ≤ 6 → o ≠ 4 → A' (45 + o) = upd (A (45 + o)) n (jv o x1 x2 x3)) : RH A' (jnS c n x1 x2 x3) := by
  intro o a hx
  by_cases ho : o ≤ 6
  · have ha : a < 8 := by unfold plx at hx; omega
    have em : mC o = 45 + o := by unfold mC; rw [if_pos (by omega)]
    have ei : mI o a = a := by unfold mI; rw [if_pos (by omega)]
    have hr := hR o a hx
    rw [em, ei, cel_o (by omega)] at hr
    rw [em, ei, cel_o (by omega), jnS_o hn ho ha]
    by_cases h4 : o = 4
    · subst h4
      rw [s _ (by simp)]
      by_cases e : a = n
      · subst e; rw [if_pos rfl, hr]; exact h0
      · rw [if_neg e]; exact hr
    · rw [hA o ho h4]
      by_cases e : a = n
      · subst e; rw [if_pos rfl, p_eq]
      · rw [if_neg e, p_ne e]; exact hr
  · have hc : 56 ≤ cel o a := by unfold plx at hx; unfold cel; split <;> omega
    have hm : mC o = 52 ∨ mC o = 53 := by unfold plx at hx; unfold mC; split <;> omega
    rw [jnS_h hc, s _ (by simp; omega)]
    exact hR o a hx
theorem INV.came {A' F' : Nat → Nat → Int32} {n' : Nat} (hI : INV A L F n nb tc) (hn : n ≤ n') (hn8 : n' ≤ 8) (hA : Ag [2, 45, 46, 47, 48, 50, 51] A A') (hF : Ag [1, 44] F F') (hF4 : ∀ k, k ≠ 1 → F' 44 k = F 44 k) (h1 : F' 1 1 = Int32.ofNat n') (h4 : F' 44 1 = Int32.ofNat n') (hC : CH (A' 2) n') (hR : RH A' (A' 2)) : INV A' L F' n' nb tc := by
  have hI0 := hI
  obtain ⟨⟨hB, -, -⟩, ⟨hCh, hL, hM⟩, -⟩ := hI0
  have eA : ∀ k, k ∉ [2, 45, 46, 47, 48, 50, 51] → A' k = A k := hA
  have eF : ∀ k, k ∉ [1, 44] → F' k = F k := hF
  refine hI.re (n' := n') ⟨⟨h1, h4, hn8⟩, ⟨hC.1, by rw [eA 4 (by simp)]; exact hB.2.1.2.1, fun p a1 a2 => ?_⟩, hC.2.1, hC.2.2, hR⟩ (fun k hk => eA k (by simp at hk ⊢; omega)) (fun k hk => eF k (by simp at hk ⊢; omega)) (fun k hk => hF4 k (by simp at hk; omega)) ((hCh.to ⟨eA 17 (by simp), eA 18 (by simp), eA 19 (by simp), eA 54 (by simp), eA 55 (by simp), eA 56 (by simp), eA 57 (by simp)⟩ ⟨by rw [eF 16 (by simp)], by rw [eF 16 (by simp)], hF4 11 (by omega), hF4 12 (by omega)⟩).mono hn) (hL.to ⟨eA 20 (by simp), eA 72 (by simp)⟩) (hM.to hn ⟨eA 22 (by simp), eA 23 (by simp), eA 73 (by simp), eA 74 (by simp)⟩ ⟨by rw [eF 0 (by simp)], by rw [eF 21 (by simp)], hF4 45 (by omega), hF4 46 (by omega), hF4 47 (by omega)⟩)
  rw [eA 66 (by simp), eA 67 (by simp), eA 68 (by simp), eA 69 (by simp)]
  exact hB.2.1.2.2 p (by omega) a2
theorem d10 (h0 : ¬ x < 0) : (mayV 0 (x / 10) ↔ ¬ 99 < x) ∧ (mayV 3 (x - x / 10 * 10) ↔ x - x / 10 * 10 < 4) := by
  have t0 : (0 : Int32).toInt = 0 := rfl
  have t3 : (3 : Int32).toInt = 3 := rfl
  have t4 : (4 : Int32).toInt = 4 := rfl
  have t9 : (9 : Int32).toInt = 9 := rfl
  have t10 : (10 : Int32).toInt = 10 := rfl
  have t99 : (99 : Int32).toInt = 99 := rfl
  rw [Int32.lt_iff_toInt_lt] at h0
  have hx := Int32.toInt_lt x
  have ed := i_div (a := x) (b := 10) (by omega) (by omega)
  rw [t10] at ed
  have em := i_mul (a := x / 10) (b := 10) (by rw [t10]; omega) (by rw [t10]; omega)
  rw [t10] at em
  have es := i_sub (a := x) (b := x / 10 * 10) (by omega) (by omega)
  constructor
  · show (¬ x / 10 < 0 ∧ ¬ 9 < x / 10) ↔ _
    rw [Int32.lt_iff_toInt_lt, Int32.lt_iff_toInt_lt, Int32.lt_iff_toInt_lt]
    omega
  · show (¬ x - x / 10 * 10 < 0 ∧ ¬ 3 < x - x / 10 * 10) ↔ _
    rw [Int32.lt_iff_toInt_lt, Int32.lt_iff_toInt_lt, Int32.lt_iff_toInt_lt]
    omega
theorem st_person {g : Int32 → Int32 → xm_H → Prop} (hK : 40 ≤ K) (hI : INV A L F n nb tc) (H : Fin2 g) : xm_Call K sX8_person 8 [.ref 0, .int x] (HP A L F) (xm_pi fun c h => xm_Call K sX9_person 9 [.ref 44, .int x] h (xm_pi fun c' h' => g c c' h')) := by
  have hI0 := hI
  obtain ⟨⟨hB, -, -⟩, -⟩ := hI0
  have hB0 := hB
  obtain ⟨⟨c1, c2, c3⟩, -, b5, b6, b7⟩ := hB0
  have fail : g (-1) (-1) (HP A L F) := H _ _ _ _ _ _ _ hI
  refine eX8_person (K := 6) (by omega) ⟨_, rfl⟩ ⟨by decide, by decide, ?_⟩
  by_cases h0 : x < 0
  · rw [if_pos h0]
    refine xm_pi_i (eX9_person (K := 6) (by omega) ⟨_, rfl⟩ (m_in2 (by omega) (fun a1 _ => absurd h0 a1) (fun _ => ?_)))
    rw [if_pos rfl]; exact xm_pi_i fail
  · rw [if_neg h0]
    have hd := d10 h0
    refine c_within (o := 0) (by omega) (by omega) (fun v0 => ?_) (fun v0 => ?_)
    · rw [if_neg (by decide)]
      refine c_within (o := 3) (by omega) (by omega) (fun v3 => ?_) (fun v3 => ?_)
      · rw [if_neg (by decide)]
        have h99 := hd.1.mp v0
        have h4 := hd.2.mp v3
        refine ⟨_, rfl, _, st_f (o := 2) (by omega), c_join (n := n) (by omega) c1 c3 (fun h8 A1 s1 e1 => ?_) (fun h8 => ?_)⟩
        · rw [if_neg (by decide)]
          refine ⟨_, rfl, _, rfl, xm_pi_i ?_⟩
          rw [u_eq, u_eq, n_pred]
          refine eX9_person (K := 6) (by omega) ⟨_, rfl⟩ (m_in2 (by omega) (fun _ _ => ?_) (fun q => (q.elim h0 h99).elim))
          rw [if_neg (by decide)]
          refine ⟨by decide, ?_⟩
          rw [if_pos h4]
          refine ⟨_, rfl, ?_⟩
          rw [u_ne (by omega), c2, if_neg (show ¬ Int32.ofNat n = (8 : Int32) from fun q => absurd ((n_eq (q := 8) (by omega) (by omega)).mp q) (by omega))]
          refine ⟨by decide, by decide, m_addOne (n := n) (by omega) (by rw [u_ne (by omega)]; exact c2) h8 (fun A2 s2 e2 => xm_pi_i (H _ _ _ _ _ _ _ (hI.came (n' := n + 1) (by omega) (by omega) ?_ ?_ ?_ ?_ ?_ ?_ ?_)))⟩
          · exact Ag.tr (s1.mono (fun k hk => by simp at hk ⊢; omega)) (s2.mono (fun k hk => by simp at hk ⊢; omega))
          · exact Ag.up (Ag.up Ag.rf (by simp)) (by simp)
          · intro k hk; rw [u_eq, u_ne hk]; rfl
          · rfl
          · rfl
          · rw [s2 2 (by simp), e1]
            exact hB.ch.join h8 v0 ⟨by decide, by decide⟩ v3
          · rw [s2 2 (by simp), e1]
            refine RH.join (A := A1) (fun o a hx => ?_) h8 (b6 4 n (by omega) (by omega) h8) s2 e2
            have hg := mC_ge (o := o)
            rw [s1 _ (by simp; omega)]
            exact b7 o a hx
        · rw [if_pos rfl]
          refine xm_pi_i (eX9_person (K := 6) (by omega) ⟨_, rfl⟩ (m_in2 (by omega) (fun _ _ => ?_) (fun q => (q.elim h0 h99).elim)))
          rw [if_neg (by decide)]
          refine ⟨by decide, ?_⟩
          rw [if_pos h4]
          refine ⟨_, rfl, ?_⟩
          rw [c2, h8, if_pos (by decide)]
          exact xm_pi_i (H _ _ _ _ _ _ _ hI)
      · rw [if_pos rfl]
        refine xm_pi_i (eX9_person (K := 6) (by omega) ⟨_, rfl⟩ (m_in2 (by omega) (fun _ _ => ?_) (fun _ => ?_)))
        · rw [if_neg (by decide)]
          refine ⟨by decide, ?_⟩
          rw [if_neg (fun q => v3 (hd.2.mpr q))]
          exact xm_pi_i fail
        · rw [if_pos rfl]; exact xm_pi_i fail
    · rw [if_pos rfl]
      refine xm_pi_i (eX9_person (K := 6) (by omega) ⟨_, rfl⟩ (m_in2 (by omega) (fun _ a2 => absurd (hd.1.mpr a2) v0) (fun _ => ?_)))
      rw [if_pos rfl]; exact xm_pi_i fail
theorem st_count {g : Int32 → Int32 → xm_H → Prop} (hK : 40 ≤ K) (hI : INV A L F n nb tc) (H : Fin2 g) : xm_Call K sX8_count 8 [.ref 0, .int x] (HP A L F) (xm_pi fun c h => xm_Call K sX9_count 9 [.ref 44, .int x] h (xm_pi fun c' h' => g c c' h')) := by
  have hI0 := hI
  obtain ⟨⟨hB, hT, hX⟩, ⟨⟨d, u, -, d3, -, d5, -⟩, -, -⟩, ⟨t, -, t1, t2, -⟩, ⟨⟨-, n1, n2, -⟩, r, -, r1, r2, -⟩, -⟩ := hI0
  obtain ⟨y, hN, hMo, hR⟩ := hB.ok hT hX
  obtain ⟨c1, c2, c3⟩ := hB.1
  refine eX8_count (K := 30) (by omega) ⟨_, rfl⟩ ?_
  by_cases h0 : x = 0
  · rw [if_pos h0]
    refine ⟨_, rfl, _, rfl, xm_pi_i (eX9_count (K := 30) (by omega) ⟨_, rfl⟩ ?_)⟩
    rw [if_pos h0, c1]
    refine ⟨_, rfl, xm_pi_i ?_⟩
    rw [c2]; exact H _ _ _ _ _ _ _ hI
  rw [if_neg h0]
  by_cases h1 : x = 1
  · rw [if_pos h1]
    refine c_howMany (tc := tc) (n := n) (y := y) (by omega) hN (fun A1 F1 s1 => xm_pi_i (eX9_count (K := 30) (by omega) ⟨_, rfl⟩ ?_))
    rw [if_neg h0, if_pos h1]
    refine m_assessedMany (tc := tc) (n := n) (y := y) (c := A 2) (by omega) (s1.mod hMo) (fun A2 F2 q2 => xm_pi_i (H _ _ _ _ _ _ _ ((hI.sc s1).mq q2)))
  rw [if_neg h1]
  by_cases h2 : x = 2
  · rw [if_pos h2]
    refine ⟨_, rfl, _, rfl, xm_pi_i (eX9_count (K := 30) (by omega) ⟨_, rfl⟩ ?_)⟩
    rw [if_neg h0, if_neg h1, if_pos h2, t1]
    refine ⟨_, rfl, xm_pi_i ?_⟩
    rw [t2]; exact H _ _ _ _ _ _ _ hI
  rw [if_neg h2]
  by_cases h3 : x = 3
  · rw [if_pos h3]
    refine ⟨_, rfl, _, rfl, xm_pi_i (eX9_count (K := 30) (by omega) ⟨_, rfl⟩ ?_)⟩
    rw [if_neg h0, if_neg h1, if_neg h2, if_pos h3, d3]
    refine ⟨_, rfl, xm_pi_i ?_⟩
    rw [d5]; exact H _ _ _ _ _ _ _ hI
  rw [if_neg h3]
  by_cases h4 : x = 4
  · rw [if_pos h4]
    refine ⟨_, rfl, _, rfl, xm_pi_i (eX9_count (K := 30) (by omega) ⟨_, rfl⟩ ?_)⟩
    rw [if_neg h0, if_neg h1, if_neg h2, if_neg h3, if_pos h4, n1]
    refine ⟨_, rfl, xm_pi_i ?_⟩
    rw [n2]; exact H _ _ _ _ _ _ _ hI
  rw [if_neg h4]
  by_cases h5 : x = 5
  · rw [if_pos h5]
    refine ⟨_, rfl, _, rfl, xm_pi_i (eX9_count (K := 30) (by omega) ⟨_, rfl⟩ ?_)⟩
    rw [if_neg h0, if_neg h1, if_neg h2, if_neg h3, if_neg h4, if_pos h5, r1]
    refine ⟨_, rfl, xm_pi_i ?_⟩
    rw [r2]; exact H _ _ _ _ _ _ _ hI
  rw [if_neg h5]
  refine xm_pi_i (eX9_count (K := 30) (by omega) ⟨_, rfl⟩ ?_)
  rw [if_neg h0, if_neg h1, if_neg h2, if_neg h3, if_neg h4, if_neg h5]
  exact xm_pi_i (H _ _ _ _ _ _ _ hI)
theorem st_trace {g : Int32 → Int32 → xm_H → Prop} (hK : 40 ≤ K) (hI : INV A L F n nb tc) (H : Fin2 g) : xm_Call K sX8_trace 8 [.ref 0, .int x] (HP A L F) (xm_pi fun c h => xm_Call K sX9_trace 9 [.ref 44, .int x] h (xm_pi fun c' h' => g c c' h')) := by
  have hI0 := hI
  obtain ⟨-, -, -, ⟨-, r, rl, r1, r2, r3⟩, -⟩ := hI0
  have fail : g (-1) (-1) (HP A L F) := H _ _ _ _ _ _ _ hI
  refine eX8_trace (K := 0) (by omega) ⟨_, rfl⟩ ?_
  by_cases h0 : x < 0
  · rw [if_pos h0]
    refine xm_pi_i (eX9_trace (K := 0) (by omega) ⟨_, rfl⟩ ?_)
    rw [if_pos h0]; exact xm_pi_i fail
  rw [if_neg h0]
  refine ⟨_, rfl, _, rfl, ?_⟩
  rw [r1]
  by_cases h1 : x < Int32.ofNat r
  · rw [if_pos h1]
    by_cases h2 : x < 24
    · rw [if_pos h2]
      obtain ⟨q, hq, rfl⟩ := n_of (n := r) (by omega) h0 h1
      have hq2 : q < 24 := (n_lt (q := 24) (by omega) (by omega)).mp h2
      refine ⟨_, rfl, _, rfl, _, ln_30 hq2, xm_pi_i (eX9_trace (K := 0) (by omega) ⟨_, rfl⟩ ?_)⟩
      rw [if_neg h0]
      refine ⟨_, rfl, ?_⟩
      rw [r2, if_pos h1, if_pos h2]
      refine ⟨_, rfl, _, ln_76 hq2, xm_pi_i ?_⟩
      rw [r3 q hq hq2]; exact H _ _ _ _ _ _ _ hI
    · rw [if_neg h2]
      refine xm_pi_i (eX9_trace (K := 0) (by omega) ⟨_, rfl⟩ ?_)
      rw [if_neg h0]
      refine ⟨_, rfl, ?_⟩
      rw [r2, if_pos h1, if_neg h2]; exact xm_pi_i fail
  · rw [if_neg h1]
    refine xm_pi_i (eX9_trace (K := 0) (by omega) ⟨_, rfl⟩ ?_)
    rw [if_neg h0]
    refine ⟨_, rfl, ?_⟩
    rw [r2, if_neg h1]; exact xm_pi_i fail
end DDI
