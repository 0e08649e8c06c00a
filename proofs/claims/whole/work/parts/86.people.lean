section PPL
variable {A : Nat → Nat → Int32} {L : Nat → Nat → Int64} {F : Nat → Nat → Int32} {gv : xm_H → Prop} {w n p k j y e m r o a d u K nb km i t b s N : Nat} {x x1 x2 x3 x4 x5 v z B : Int32} {h : xm_H} {tc : (Nat → Int32) → Int32} {c : Nat → Int32} {q : Int64}
theorem c_joinRow {g : Int32 → xm_H → Prop} (hK : 3 < K) (hs : s < 6) (hi : i ≤ 60) (he : e + 3 ≤ i) (h2 : F (32 + 2 * s) 2 = Int32.ofNat i) (c1 : F 1 1 = Int32.ofNat n) (c3 : n ≤ 8) (H : mayV 0 (Int64.toInt32 (L (33 + 2 * s) e)) → mayV 2 (Int64.toInt32 (L (33 + 2 * s) (e + 1))) → mayV 3 (Int64.toInt32 (L (33 + 2 * s) (e + 2))) → n < 8 → ∀ A', Ag [2] A A' → A' 2 = jnS (A 2) n (Int64.toInt32 (L (33 + 2 * s) e)) (Int64.toInt32 (L (33 + 2 * s) (e + 1))) (Int64.toInt32 (L (33 + 2 * s) (e + 2))) → g 1 (HP A' L (va_up F 1 (va_up (F 1) 1 (Int32.ofNat (n + 1)))))) (H2 : ¬ (mayV 0 (Int64.toInt32 (L (33 + 2 * s) e)) ∧ mayV 2 (Int64.toInt32 (L (33 + 2 * s) (e + 1))) ∧ mayV 3 (Int64.toInt32 (L (33 + 2 * s) (e + 2))) ∧ n < 8) → g 0 (HP A L F)) : xm_Call K sX8_joinFromRow 8 [.ref 0, .ref (32 + 2 * s), .int (Int32.ofNat e)] (HP A L F) (xm_pi g) := by
  refine eX8_joinFromRow (K := 3) hK ⟨_, rfl⟩ (c_sget (i := i) (by omega) hs hi (by omega) h2 ?_)
  rw [n_succ]
  refine c_sget (i := i) (by omega) hs hi (by omega) h2 ?_
  rw [n42]
  refine c_sget (i := i) (by omega) hs hi (by omega) h2 ?_
  refine c_within (o := 0) (by omega) (by omega) (fun v0 => ?_) (fun v0 => ?_)
  · rw [if_neg (by decide)]
    refine c_within (o := 2) (by omega) (by omega) (fun v1 => ?_) (fun v1 => ?_)
    · rw [if_neg (by decide)]
      refine c_within (o := 3) (by omega) (by omega) (fun v2 => ?_) (fun v2 => ?_)
      · rw [if_neg (by decide)]
        refine ⟨_, rfl, c_join (n := n) (by omega) c1 c3 (fun h8 A1 a1 a2 => ?_) (fun h8 => ?_)⟩
        · rw [if_neg (by decide)]; exact xm_pi_i (H v0 v1 v2 h8 A1 a1 a2)
        · rw [if_pos rfl]; exact xm_pi_i (H2 (fun q => absurd q.2.2.2 (by omega)))
      · rw [if_pos rfl]; exact xm_pi_i (H2 (fun q => v2 q.2.2.1))
    · rw [if_pos rfl]; exact xm_pi_i (H2 (fun q => v1 q.2.1))
  · rw [if_pos rfl]; exact xm_pi_i (H2 (fun q => v0 q.1))
/-- what the row says of the m-th who comes -/
def rwV (f : Nat → Int64) (x : Int32) (m j : Nat) : Int32 := Int64.toInt32 (f ((x + 3 * Int32.ofNat m).toNatClampNeg + j))
def okPe (f : Nat → Int64) (x : Int32) (i n m : Nat) : Prop := plR i (x + 3 * Int32.ofNat m) 3 ∧ mayV 0 (rwV f x m 0) ∧ mayV 2 (rwV f x m 1) ∧ mayV 3 (rwV f x m 2) ∧ n + m < 8
def wlP (f : Nat → Int64) (x : Int32) (c : Nat → Int32) (n : Nat) : Nat → Nat → Int32
  | 0 => c
  | m + 1 => jnS (wlP f x c n m) (n + m) (rwV f x m 0) (rwV f x m 1) (rwV f x m 2)
theorem wlP_CH {f : Nat → Int64} (hC : CH c n) : ∀ m, (∀ j, j < m → okPe f x i n j) → CH (wlP f x c n m) (n + m)
  | 0, _ => hC
  | m + 1, h => by
    obtain ⟨-, h0, h2, h3, h8⟩ := h m (by omega)
    exact (wlP_CH hC m (fun j hj => h j (by omega))).join h8 h0 h2 h3
theorem pl3 (hi : i ≤ 60) (h : plR i x 3) : ∃ e, x = Int32.ofNat e ∧ e + 3 ≤ i := by
  obtain ⟨k, m, h1, h2, h3⟩ := h
  have : 3 = m := (n_eq (p := 3) (by omega) (by omega)).mp h2
  exact ⟨k, h1, by omega⟩
theorem p_at (hi : i ≤ 60) (hm : m < 8) : (plR i (x + 3 * Int32.ofNat m) 3 ↔ ¬ Int32.toInt64 x + Int32.toInt64 (3 * Int32.ofNat m) < 0 ∧ Int32.toInt64 x + Int32.toInt64 (3 * Int32.ofNat m) + 2 < Int32.toInt64 (Int32.ofNat i)) ∧ (plR i (x + 3 * Int32.ofNat m) 3 → Int64.toInt32 (Int32.toInt64 x + Int32.toInt64 (3 * Int32.ofNat m)) = x + 3 * Int32.ofNat m) := by
  have e3 : (3 : Int32) * Int32.ofNat m = Int32.ofNat (3 * m) := n_mul 3 m
  rw [e3]
  have t0 : (0 : Int32).toInt = 0 := rfl
  have t3 : (3 : Int32).toInt = 3 := rfl
  have u0 : (0 : Int64).toInt = 0 := rfl
  have u2 : (2 : Int64).toInt = 2 := rfl
  have tm := n_ti (p := 3 * m) (by omega)
  have ti := n_ti (p := i) (by omega)
  have l1 := Int32.toInt_lt x
  have l2 := Int32.le_toInt x
  have ez : (Int32.toInt64 x + Int32.toInt64 (Int32.ofNat (3 * m))).toInt = x.toInt + ((3 * m : Nat) : Int) := by
    rw [Int64.toInt_add, Int32.toInt_toInt64, Int32.toInt_toInt64, tm, Int.bmod_def]
    split <;> omega
  have ez2 : (Int32.toInt64 x + Int32.toInt64 (Int32.ofNat (3 * m)) + 2).toInt = x.toInt + ((3 * m : Nat) : Int) + 2 := by
    rw [Int64.toInt_add, ez, u2, Int.bmod_def]
    split <;> omega
  have ex : (x + Int32.ofNat (3 * m)).toInt = (x.toInt + ((3 * m : Nat) : Int)).bmod (2 ^ 32) := by rw [Int32.toInt_add, tm]
  have es := i_sub (a := Int32.ofNat i) (b := 3) (by omega) (by omega)
  rw [t3] at es
  have main : plR i (x + Int32.ofNat (3 * m)) 3 ↔ 0 ≤ x.toInt + ((3 * m : Nat) : Int) ∧ x.toInt + ((3 * m : Nat) : Int) + 2 < (i : Int) := by
    rw [pl_iff hi, Int32.lt_iff_toInt_lt, Int32.lt_iff_toInt_lt, Int32.lt_iff_toInt_lt, es, ex, t0, t3, ti, Int.bmod_def]
    split <;> omega
  constructor
  · rw [main, Int64.lt_iff_toInt_lt, Int64.lt_iff_toInt_lt, ez, ez2, u0, Int32.toInt_toInt64, ti]
    omega
  · intro hp
    have := main.mp hp
    apply Int32.toInt_inj.mp
    rw [Int64.toInt_toInt32, ez, ex]
theorem c_people {g : Int32 → xm_H → Prop} (hK : 4 < K) (hs : s < 6) (hi : i ≤ 60) (hN : N ≤ 8) (h2 : F (32 + 2 * s) 2 = Int32.ofNat i) (c1 : F 1 1 = Int32.ofNat n) (c3 : n ≤ 8) (H : ∀ m, m ≤ N → (∀ j, j < m → okPe (L (33 + 2 * s)) x2 i n j) → (m = N ∨ ¬ okPe (L (33 + 2 * s)) x2 i n m) → ∀ A', Ag [2] A A' → A' 2 = wlP (L (33 + 2 * s)) x2 (A 2) n m → g (Int32.ofNat m) (HP A' L (va_up F 1 (va_up (F 1) 1 (Int32.ofNat (n + m)))))) : xm_L K sX8_people kX8_people 29 [some (.ref 0), none, some (.int x2), some (.int (Int32.ofNat N)), some (.ref (32 + 2 * s)), some (.int (Int32.ofNat 0)), some (.int (Int32.ofNat 0))] [] (HP A L F) (xm_pi g) := by
  refine xm_for (n := N) (Q := fun p h => xm_L K sX8_people kX8_people 29 [some (.ref 0), none, some (.int x2), some (.int (Int32.ofNat N)), some (.ref (32 + 2 * s)), some (.int (Int32.ofNat p)), some (.int (Int32.ofNat p))] [] h (xm_pi g)) (fun p h => (∀ j, j < p → okPe (L (33 + 2 * s)) x2 i n j) ∧ n + p ≤ 8 ∧ ∃ A', h = HP A' L (va_up F 1 (va_up (F 1) 1 (Int32.ofNat (n + p)))) ∧ Ag [2] A A' ∧ A' 2 = wlP (L (33 + 2 * s)) x2 (A 2) n p) ?_ ?_ 0 _ (Nat.zero_le _) ⟨fun j hj => absurd hj (by omega), c3, A, ?_, Ag.rf, rfl⟩
  · rintro p h hp ⟨ho, hn8, A1, rfl, a1, a2⟩ ih
    have fs : va_up F 1 (va_up (F 1) 1 (Int32.ofNat (n + p))) (32 + 2 * s) = F (32 + 2 * s) := u_ne (by omega)
    refine xX8_people_29 ?_
    rw [if_pos ((n_lt (by omega) (by omega)).mpr hp)]
    refine c_hasPl (i := i) (by omega) hs hi (by rw [fs]; exact h2) (fun pl => ?_) (fun pl => ?_)
    · rw [if_neg (by decide)]
      obtain ⟨e, ee, he⟩ := pl3 hi pl
      have tn : (x2 + 3 * Int32.ofNat p).toNatClampNeg = e := by rw [ee]; exact xs_tn (by omega)
      have r0 : rwV (L (33 + 2 * s)) x2 p 0 = Int64.toInt32 (L (33 + 2 * s) e) := by unfold rwV; rw [tn]; rfl
      have r1 : rwV (L (33 + 2 * s)) x2 p 1 = Int64.toInt32 (L (33 + 2 * s) (e + 1)) := by unfold rwV; rw [tn]
      have r2 : rwV (L (33 + 2 * s)) x2 p 2 = Int64.toInt32 (L (33 + 2 * s) (e + 2)) := by unfold rwV; rw [tn]
      have hok : okPe (L (33 + 2 * s)) x2 i n p ↔ (mayV 0 (Int64.toInt32 (L (33 + 2 * s) e)) ∧ mayV 2 (Int64.toInt32 (L (33 + 2 * s) (e + 1))) ∧ mayV 3 (Int64.toInt32 (L (33 + 2 * s) (e + 2))) ∧ n + p < 8) := by
        unfold okPe; rw [r0, r1, r2]; exact ⟨fun q => q.2, fun q => ⟨pl, q⟩⟩
      rw [ee]
      refine c_joinRow (n := n + p) (by omega) hs hi he (by rw [fs]; exact h2) (by rw [u_eq, u_eq]) hn8 (fun v0 v1 v2 h8 A2 b1 b2 => ?_) (fun no => ?_)
      · rw [if_neg (by decide), n_succ, u_eq, up3, up3]
        refine ih _ ⟨fun j hj => ?_, by omega, A2, rfl, Ag.tr a1 b1, ?_⟩
        · by_cases ej : j = p
          · subst ej; exact hok.mpr ⟨v0, v1, v2, h8⟩
          · exact ho j (by omega)
        · rw [b2, a2]
          show _ = jnS (wlP (L (33 + 2 * s)) x2 (A 2) n p) (n + p) (rwV (L (33 + 2 * s)) x2 p 0) (rwV (L (33 + 2 * s)) x2 p 1) (rwV (L (33 + 2 * s)) x2 p 2)
          rw [r0, r1, r2]
      · rw [if_pos rfl]
        exact xm_pi_i (H p (by omega) ho (Or.inr (fun q => no (hok.mp q))) A1 a1 a2)
    · rw [if_pos rfl]
      exact xm_pi_i (H p (by omega) ho (Or.inr (fun q => pl q.1)) A1 a1 a2)
  · rintro h ⟨ho, hn8, A1, rfl, a1, a2⟩
    refine xX8_people_29 ?_
    rw [if_neg (n_ge (by omega) (by omega) (Nat.le_refl _))]
    exact xm_pi_i (H N (Nat.le_refl _) ho (Or.inl rfl) A1 a1 a2)
  · show HP A L F = HP A L (va_up F 1 (va_up (F 1) 1 (Int32.ofNat n)))
    rw [← c1, up_id, up_id]
theorem m_people {g : Int32 → xm_H → Prop} (hK : 1 < K) (hs : s < 6) (hi : i ≤ 60) (hN : N ≤ 8) (h8 : A 78 s = Int32.ofNat i) {f : Nat → Int64} (hL : ∀ k, k < 60 → f k = L 79 (60 * s + k)) (c2 : F 44 1 = Int32.ofNat n) (c3 : n ≤ 8) (hR : RH A c) (hC : CH c n) (H : ∀ m, m ≤ N → (∀ j, j < m → okPe f x2 i n j) → (m = N ∨ ¬ okPe f x2 i n m) → ∀ A', Ag [45, 46, 47, 48, 50, 51] A A' → RH A' (wlP f x2 c n m) → g (Int32.ofNat m) (HP A' L (va_up F 44 (va_up (F 44) 1 (Int32.ofNat (n + m)))))) : xm_L K sX9_people kX9_people 34 [some (.ref 44), some (.int (Int32.ofNat s)), some (.int x2), some (.int (Int32.ofNat N)), some (.int (Int32.ofNat 0)), none, none, none] [] (HP A L F) (xm_pi g) := by
  refine xm_for (n := N) (Q := fun p h => xm_L K sX9_people kX9_people 34 [some (.ref 44), some (.int (Int32.ofNat s)), some (.int x2), some (.int (Int32.ofNat N)), some (.int (Int32.ofNat p)), none, none, none] [] h (xm_pi g)) (fun p h => (∀ j, j < p → okPe f x2 i n j) ∧ n + p ≤ 8 ∧ ∃ A', h = HP A' L (va_up F 44 (va_up (F 44) 1 (Int32.ofNat (n + p)))) ∧ Ag [45, 46, 47, 48, 50, 51] A A' ∧ RH A' (wlP f x2 c n p)) ?_ ?_ 0 _ (Nat.zero_le _) ⟨fun j hj => absurd hj (by omega), c3, A, ?_, Ag.rf, hR⟩
  · rintro p h hp ⟨ho, hn8, A1, rfl, a1, a2⟩ ih
    obtain ⟨pi, pt⟩ := p_at (x := x2) hi (show p < 8 by omega)
    have bad : ¬ okPe f x2 i n p → xm_pi g (some (.int (Int32.ofNat p))) (HP A1 L (va_up F 44 (va_up (F 44) 1 (Int32.ofNat (n + p))))) := fun q => xm_pi_i (H p (by omega) ho (Or.inr q) A1 a1 a2)
    refine xX9_people_34 ?_
    rw [if_pos ((n_lt (by omega) (by omega)).mpr hp)]
    by_cases l0 : lg_cmp (Int32.toInt64 x2 + Int32.toInt64 (3 * Int32.ofNat p)) 0 < 0
    · rw [if_pos l0]
      exact bad (fun q => (pi.mp q.1).1 ((lg_cmp_lt _ _).mp l0))
    rw [if_neg l0]
    refine ⟨_, rfl, _, ln_78 hs, ?_⟩
    rw [a1 78 (by simp), h8]
    by_cases l1 : lg_cmp (Int32.toInt64 x2 + Int32.toInt64 (3 * Int32.ofNat p) + 2) (Int32.toInt64 (Int32.ofNat i)) < 0
    · rw [if_pos l1]
      have pl : plR i (x2 + 3 * Int32.ofNat p) 3 := pi.mpr ⟨fun q => l0 ((lg_cmp_lt _ _).mpr q), (lg_cmp_lt _ _).mp l1⟩
      refine ⟨_, rfl, ?_⟩
      rw [u_eq, u_eq]
      by_cases e8 : n + p = 8
      · rw [e8, if_pos (by decide), ← e8]
        exact bad (fun q => absurd q.2.2.2.2 (by omega))
      rw [if_neg (show ¬ Int32.ofNat (n + p) = (8 : Int32) from fun q => e8 ((n_eq (q := 8) (by omega) (by omega)).mp q)), pt pl]
      obtain ⟨e, ee, he⟩ := pl3 hi pl
      have tn : (x2 + 3 * Int32.ofNat p).toNatClampNeg = e := by rw [ee]; exact xs_tn (by omega)
      have r0 : rwV f x2 p 0 = Int64.toInt32 (L 79 (60 * s + e)) := by unfold rwV; rw [tn, hL _ (by omega)]; rfl
      have r1 : rwV f x2 p 1 = Int64.toInt32 (L 79 (60 * s + e + 1)) := by unfold rwV; rw [tn, hL _ (by omega)]; rfl
      have r2 : rwV f x2 p 2 = Int64.toInt32 (L 79 (60 * s + e + 2)) := by unfold rwV; rw [tn, hL _ (by omega)]; rfl
      have hok : okPe f x2 i n p ↔ (mayV 0 (Int64.toInt32 (L 79 (60 * s + e))) ∧ mayV 2 (Int64.toInt32 (L 79 (60 * s + e + 1))) ∧ mayV 3 (Int64.toInt32 (L 79 (60 * s + e + 2))) ∧ n + p < 8) := by
        unfold okPe; rw [r0, r1, r2]; exact ⟨fun q => q.2, fun q => ⟨pl, q⟩⟩
      rw [ee, n_60, n_succ (60 * s + e), n42]
      refine ⟨_, rfl, _, ln_79 (by omega), m_in2 (by omega) (fun q1 q2 => ?_) (fun q => ?_)⟩
      · rw [if_neg (by decide)]
        have v0 : mayV 0 (Int64.toInt32 (L 79 (60 * s + e))) := ⟨q1, q2⟩
        refine ⟨_, rfl, _, ln_79 (by omega), m_in2 (by omega) (fun q1 q2 => ?_) (fun q => ?_)⟩
        · rw [if_neg (by decide)]
          have v1 : mayV 2 (Int64.toInt32 (L 79 (60 * s + e + 1))) := ⟨q1, q2⟩
          refine ⟨_, rfl, _, ln_79 (by omega), m_in2 (by omega) (fun q1 q2 => ?_) (fun q => ?_)⟩
          · rw [if_neg (by decide)]
            have v2 : mayV 3 (Int64.toInt32 (L 79 (60 * s + e + 2))) := ⟨q1, q2⟩
            have hokp := hok.mpr ⟨v0, v1, v2, by omega⟩
            refine ⟨_, rfl, _, ln_79 (by omega), _, rfl, _, ln_79 (by omega), _, rfl, _, ln_79 (by omega), m_addOne (n := n + p) (by omega) (by rw [u_eq, u_eq]) (by omega) (fun A2 b1 b2 => ?_)⟩
            rw [n_succ, u_eq, up3, up3]
            refine ih _ ⟨fun j hj => ?_, by omega, A2, rfl, Ag.tr a1 b1, ?_⟩
            · by_cases ej : j = p
              · subst ej; exact hokp
              · exact ho j (by omega)
            · show RH A2 (jnS (wlP f x2 c n p) (n + p) (rwV f x2 p 0) (rwV f x2 p 1) (rwV f x2 p 2))
              rw [r0, r1, r2]
              exact a2.join (by omega) ((wlP_CH hC p ho).2.2 4 (n + p) (by omega) (by omega) (by omega)) b1 b2
          · rw [if_pos rfl]; exact bad (fun ok => q.elim (hok.mp ok).2.2.1.1 (hok.mp ok).2.2.1.2)
        · rw [if_pos rfl]; exact bad (fun ok => q.elim (hok.mp ok).2.1.1 (hok.mp ok).2.1.2)
      · rw [if_pos rfl]; exact bad (fun ok => q.elim (hok.mp ok).1.1 (hok.mp ok).1.2)
    · rw [if_neg l1]
      exact bad (fun q => l1 ((lg_cmp_lt _ _).mpr (pi.mp q.1).2))
  · rintro h ⟨ho, hn8, A1, rfl, a1, a2⟩
    refine xX9_people_34 ?_
    rw [if_neg (n_ge (by omega) (by omega) (Nat.le_refl _))]
    exact xm_pi_i (H N (Nat.le_refl _) ho (Or.inl rfl) A1 a1 a2)
  · show HP A L F = HP A L (va_up F 44 (va_up (F 44) 1 (Int32.ofNat n)))
    rw [← c2, up_id, up_id]
theorem okPe_un {f : Nat → Int64} {m' : Nat} (h1 : m ≤ N) (h2 : ∀ j, j < m → okPe f x i n j) (h3 : m = N ∨ ¬ okPe f x i n m) (k1 : m' ≤ N) (k2 : ∀ j, j < m' → okPe f x i n j) (k3 : m' = N ∨ ¬ okPe f x i n m') : m = m' := by
  rcases Nat.lt_trichotomy m m' with h | h | h
  · rcases h3 with h3 | h3
    · omega
    · exact absurd (k2 m h) h3
  · exact h
  · rcases k3 with k3 | k3
    · omega
    · exact absurd (h2 m' h) k3
theorem st_people {g : Int32 → Int32 → xm_H → Prop} (hK : 40 ≤ K) (hI : INV A L F n nb tc) (H : Fin2 g) : xm_Call K sX8_people 8 [.ref 0, .int x1, .int x2, .int x3] (HP A L F) (xm_pi fun c h => xm_Call K sX9_people 9 [.ref 44, .int x1, .int x2, .int x3] h (xm_pi fun c' h' => g c c' h')) := by
  have hI0 := hI
  obtain ⟨⟨hB, -, -⟩, -, -, ⟨⟨n0, -⟩, -⟩, -⟩ := hI0
  obtain ⟨c1, c2, c3⟩ := hB.1
  have fail : ∀ v, g v v (HP A L F) := fun v => H _ _ _ _ _ _ _ hI
  refine eX8_people (K := 9) (by omega) ⟨_, rfl⟩ (c_shelfAt (by omega) (fun s hs he => ?_) (fun hb => ?_))
  · have bad : (x3 < 1 ∨ 8 < x3) → xm_Call K sX9_people 9 [.ref 44, .int x1, .int x2, .int x3] (HP A L F) (xm_pi fun c' h' => g (-1) c' h') := by
      intro hb
      refine eX9_people (K := 9) (by omega) ⟨_, rfl⟩ (m_isShelf (by omega) (fun _ _ _ => ?_) (fun hb => (no6 hs he hb).elim))
      rw [if_neg (by decide)]
      refine m_in2 (by omega) (fun a1 a2 => (hb.elim a1 a2).elim) (fun _ => ?_)
      rw [if_pos rfl]; exact xm_pi_i (fail _)
    by_cases b1 : x3 < 1
    · rw [if_pos b1]; exact xm_pi_i (bad (Or.inl b1))
    rw [if_neg b1]
    by_cases b8 : 8 < x3
    · rw [if_pos b8]; exact xm_pi_i (bad (Or.inr b8))
    rw [if_neg b8]
    subst he
    refine ⟨_, sh_f0 hs, ?_⟩
    rcases hI.one hs with ⟨h0, h7⟩ | ⟨h0, b, hb, -, h7⟩ | ⟨t, i, ht, hi, h0, h7, h2, h8, hL⟩
    · rw [if_pos h0]
      refine xm_pi_i (eX9_people (K := 9) (by omega) ⟨_, rfl⟩ (m_isShelf (by omega) (fun _ _ _ => ?_) (fun hb => (no6 hs rfl hb).elim)))
      rw [if_neg (by decide)]
      refine m_in2 (by omega) (fun _ _ => ?_) (fun q => (q.elim b1 b8).elim)
      rw [if_neg (by decide)]
      refine ⟨_, rfl, _, ln_77 hs, ?_⟩
      rw [if_pos h7]
      refine ⟨_, rfl, _, ln_77 hs, ?_⟩
      rw [if_pos h7]; exact xm_pi_i (fail _)
    · rw [h0, if_neg (by decide)]
      refine ⟨_, sh_f0 hs, ?_⟩
      rw [h0, if_neg (by decide)]
      refine xm_pi_i (eX9_people (K := 9) (by omega) ⟨_, rfl⟩ (m_isShelf (by omega) (fun _ _ _ => ?_) (fun hb => (no6 hs rfl hb).elim)))
      rw [if_neg (by decide)]
      refine m_in2 (by omega) (fun _ _ => ?_) (fun q => (q.elim b1 b8).elim)
      rw [if_neg (by decide)]
      have hb1 := b50 b (by omega)
      rw [← h7] at hb1
      refine ⟨_, rfl, _, ln_77 hs, ?_⟩
      rw [if_neg hb1.1]
      refine ⟨_, rfl, _, ln_77 hs, ?_⟩
      rw [if_neg (fun q => hb1.2 (by rw [q]; decide))]; exact xm_pi_i (fail _)
    · have ht1 := m2_t t ht
      rw [h0, if_neg ht1.2.2.2.1]
      refine ⟨_, sh_f0 hs, ?_⟩
      rw [h0]
      by_cases t0 : t = 0
      · subst t0
        rw [if_pos (by decide)]
        obtain ⟨N, hN, eN⟩ := i_le 8 (by omega) (fun q => b1 (by rw [Int32.lt_iff_toInt_lt] at *; exact Int.lt_trans q (by decide))) b8
        subst eN
        refine c_people (N := N) (i := i) (n := n) (by omega) hs hi hN h2 c1 c3 (fun m hm m1 m2 A1 a1 a2 => ?_)
        refine eX9_people (K := 9) (by omega) ⟨_, rfl⟩ (m_isShelf (by omega) (fun _ _ _ => ?_) (fun hb => (no6 hs rfl hb).elim))
        rw [if_neg (by decide)]
        refine m_in2 (by omega) (fun _ _ => ?_) (fun q => (q.elim b1 b8).elim)
        rw [if_neg (by decide)]
        have e77 : A1 77 s = -2 := by rw [a1 77 (by simp), h7]; rfl
        refine ⟨_, rfl, _, ln_77 hs, ?_⟩
        rw [e77, if_neg (by decide)]
        refine ⟨_, rfl, _, ln_77 hs, ?_⟩
        rw [e77, if_pos rfl]
        refine ⟨_, rfl, _, ln_77 hs, ?_⟩
        rw [e77, if_neg (by decide)]
        refine m_people (N := N) (i := i) (n := n) (c := A 2) (f := L (33 + 2 * s)) (by omega) hs hi hN (by rw [a1 78 (by simp)]; exact h8) hL (by rw [u_ne (by omega)]; exact c2) c3 (fun o a hx => ?_) hB.ch (fun m' hm' m1' m2' A2 b1 b2 => ?_)
        · have hg := mC_ge (o := o)
          rw [a1 _ (by simp; omega)]
          exact hB.2.2.2.2 o a hx
        · have em := okPe_un hm m1 m2 hm' m1' m2'
          subst em
          have e2 : A2 2 = wlP (L (33 + 2 * s)) x2 (A 2) n m := (b1 2 (by simp)).trans a2
          have hC := wlP_CH hB.ch m m1
          have hn : n + m ≤ 8 := by
            by_cases m0 : m = 0
            · omega
            · have := (m1 (m - 1) (by omega)).2.2.2.2
              omega
          refine H _ _ _ _ _ _ _ (hI.came (n' := n + m) (by omega) hn ?_ ?_ ?_ ?_ ?_ ?_ ?_)
          · exact Ag.tr (a1.mono (fun k hk => by simp at hk ⊢; omega)) (b1.mono (fun k hk => by simp at hk ⊢; omega))
          · exact Ag.up (Ag.up Ag.rf (by simp)) (by simp)
          · intro k hk; rw [u_eq, u_ne hk]; rfl
          · rfl
          · rfl
          · rw [e2]; exact hC
          · rw [e2]; exact b2
      · rw [if_neg (show ¬ Int32.ofNat t = 0 from fun q => t0 ((n_eq (q := 0) (by omega) (by omega)).mp q))]
        refine xm_pi_i (eX9_people (K := 9) (by omega) ⟨_, rfl⟩ (m_isShelf (by omega) (fun _ _ _ => ?_) (fun hb => (no6 hs rfl hb).elim)))
        rw [if_neg (by decide)]
        refine m_in2 (by omega) (fun _ _ => ?_) (fun q => (q.elim b1 b8).elim)
        rw [if_neg (by decide)]
        refine ⟨_, rfl, _, ln_77 hs, ?_⟩
        rw [h7, if_neg ht1.1]
        refine ⟨_, rfl, _, ln_77 hs, ?_⟩
        rw [h7, if_neg (show ¬ (-2 : Int32) - Int32.ofNat t = -2 from fun q => t0 ((m2_inj t 0 ht (by omega)).mp q))]; exact xm_pi_i (fail _)
  · refine xm_pi_i (eX9_people (K := 9) (by omega) ⟨_, rfl⟩ (m_isShelf (by omega) (fun s' hs' he' => (no6 hs' he' hb).elim) (fun _ => ?_)))
    rw [if_pos rfl]; exact xm_pi_i (fail _)
end PPL
