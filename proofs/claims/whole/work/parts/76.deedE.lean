section DDE
variable {A : Nat → Nat → Int32} {L : Nat → Nat → Int64} {F : Nat → Nat → Int32} {g : Int32 → Int32 → xm_H → Prop} {gv : xm_H → Prop} {w n p k j y e m r o a d u K nb : Nat} {x x1 x2 x3 v z : Int32} {h : xm_H} {tc : (Nat → Int32) → Int32} {c : Nat → Int32}
theorem vcm {α : Type} {A : Nat → α} {i j : Nat} {f f' : α} (hne : i ≠ j) : va_up (va_up A i f) j f' = va_up (va_up A j f') i f := by
  funext k
  by_cases h1 : k = j
  · subst h1; rw [u_eq, u_ne (fun q => hne q.symm), u_eq]
  · rw [u_ne h1]
    by_cases h2 : k = i
    · subst h2; rw [u_eq, u_eq]
    · rw [u_ne h2, u_ne h2, u_ne h1]
theorem INV.lay1 (hI : INV A L F n nb tc) (hp : plc n o a) (hv : mayV o v) : INV (lay2 A o a v) L F n nb tc := by
  have hI0 := hI
  obtain ⟨⟨hB, -, -⟩, ⟨hC, hL, hM⟩, -⟩ := hI0
  have hx := plc_x hB.1.2.2 hp
  have ho : o ≤ 10 := by unfold plx at hx; omega
  have hmc := mC_ge (o := o)
  have hmc2 := hmc.2 ho
  have e : ∀ k, k ≠ 2 → ¬ (45 ≤ k ∧ k ≤ 53) → lay2 A o a v k = A k := fun k h1 h2 => lay2_o h1 (by omega)
  refine hI.re (hB.lay hp hv) (fun k hk => ?_) (fun _ _ => rfl) (fun _ _ => rfl) (hC.to ⟨e 17 (by omega) (by omega), e 18 (by omega) (by omega), e 19 (by omega) (by omega), e 54 (by omega) (by omega), e 55 (by omega) (by omega), e 56 (by omega) (by omega), e 57 (by omega) (by omega)⟩ ⟨rfl, rfl, rfl, rfl⟩) (hL.to ⟨e 20 (by omega) (by omega), e 72 (by omega) (by omega)⟩) (hM.to (Nat.le_refl _) ⟨e 22 (by omega) (by omega), e 23 (by omega) (by omega), e 73 (by omega) (by omega), e 74 (by omega) (by omega)⟩ ⟨rfl, rfl, rfl, rfl, rfl⟩)
  simp at hk
  exact e k (by omega) (by omega)
theorem INV.led1 (hI : INV A L F n nb tc) : INV (va_up (va_up A 20 (upd (A 20) j v)) 72 (upd (A 72) j v)) L F n nb tc := by
  have hI0 := hI
  obtain ⟨⟨hB, -, -⟩, ⟨hC, hL, hM⟩, -⟩ := hI0
  have e : ∀ k, k ≠ 20 → k ≠ 72 → va_up (va_up A 20 (upd (A 20) j v)) 72 (upd (A 72) j v) k = A k := fun k h1 h2 => by rw [u_ne h2, u_ne h1]
  refine hI.re (hB.to (e 2 (by omega) (by omega)) (by rw [e 4 (by omega) (by omega)]; exact hB.2.1.2.1) (fun p h1 h2 => ?_) (fun k h1 h2 => e k (by omega) (by omega)) ⟨rfl, rfl⟩) (fun k hk => ?_) (fun _ _ => rfl) (fun _ _ => rfl) (hC.to ⟨e 17 (by omega) (by omega), e 18 (by omega) (by omega), e 19 (by omega) (by omega), e 54 (by omega) (by omega), e 55 (by omega) (by omega), e 56 (by omega) (by omega), e 57 (by omega) (by omega)⟩ ⟨rfl, rfl, rfl, rfl⟩) (fun i hi => ?_) (hM.to (Nat.le_refl _) ⟨e 22 (by omega) (by omega), e 23 (by omega) (by omega), e 73 (by omega) (by omega), e 74 (by omega) (by omega)⟩ ⟨rfl, rfl, rfl, rfl, rfl⟩)
  · rw [e 66 (by omega) (by omega), e 67 (by omega) (by omega), e 68 (by omega) (by omega), e 69 (by omega) (by omega)]
    exact hB.2.1.2.2 p h1 h2
  · simp at hk
    exact e k (by omega) (by omega)
  · show upd (A 20) j v i = upd (A 72) j v i
    by_cases hij : i = j
    · subst hij; rw [p_eq, p_eq]
    · rw [p_ne hij, p_ne hij]; exact hL i hi
theorem INV.led1' (hI : INV A L F n nb tc) {v' : Int32} (he : v = v') : INV (va_up (va_up A 20 (upd (A 20) j v)) 72 (upd (A 72) j v')) L F n nb tc := by subst he; exact hI.led1
theorem st_takes (hK : 40 ≤ K) (hI : INV A L F n nb tc) (H : Fin2 g) : xm_Call K sX8_takes 8 [.ref 0, .int x1, .int x2] (HP A L F) (xm_pi fun c h => xm_Call K sX9_takes 9 [.ref 44, .int x1, .int x2] h (xm_pi fun c' h' => g c c' h')) := by
  have hI0 := hI
  obtain ⟨⟨hB, -, -⟩, ⟨hC, hL, hM⟩, -⟩ := hI0
  obtain ⟨⟨c1, c2, c3⟩, -, b5, -, b7⟩ := hB
  have fail : g (-1) (-1) (HP A L F) := H _ _ _ _ _ _ _ hI
  have hw : isW 1 := Or.inl rfl
  refine eX8_takes (K := 5) (by omega) ⟨_, rfl⟩ ⟨_, rfl, c_has (n := n) (by omega) hw c1 c3 (fun p hp he => ?_) (fun hb => ?_)⟩
  · rw [if_neg (by decide)]
    refine c_within (o := 3) (by omega) (by omega) (fun hv => ?_) (fun hv => ?_)
    · rw [if_neg (by decide), he]
      refine ⟨_, rfl, c_get (k := 3) (by omega) hw c1 c3 hp (by omega) ⟨_, rfl, c_set (k := 3) (by omega) hw c1 c3 hp (by omega) ⟨_, rfl, _, ln_20 (j := 0) (by omega), _, sn_20 (j := 0) (by omega), xm_pi_i ?_⟩⟩⟩
      refine eX9_takes (K := 5) (by omega) ⟨_, rfl⟩ (m_isOne (n := n) (by omega) c2 c3 (fun p' hp' he' => ?_) (fun hb => (bad_no c3 hp rfl hb).elim))
      rw [if_neg (by decide)]
      refine m_in2 (by omega) (fun a1 a2 => ?_) (fun q => (q.elim hv.1 hv.2).elim)
      rw [if_neg (by decide)]
      refine ⟨_, rfl, _, ln_48 (by omega), _, rfl, _, sn_48 (by omega), _, rfl, _, ln_72 (j := 0) (by omega), _, sn_72 (j := 0) (by omega), xm_pi_i ?_⟩
      have e48 : A 48 p = A 2 (24 + p) := b7 3 p (Or.inl ⟨by omega, by omega⟩)
      have h1 := (hI.lay1 (o := 3) (a := p) (v := x2) (Or.inl ⟨by omega, hp⟩) hv).led1' (j := 0) (v := A 20 0 + 1) (v' := A 72 0 + 1) (by rw [hL 0 (by omega)])
      have hh := H (A 2 (24 + p)) _ _ _ _ _ _ h1
      have e1 : va_up (va_up (lay2 A 3 p x2) 20 (upd (lay2 A 3 p x2 20) 0 (A 20 0 + 1))) 72 (upd (lay2 A 3 p x2 72) 0 (A 72 0 + 1)) = va_up (va_up (va_up (va_up A 2 (upd (A 2) (24 + p) x2)) 20 (upd (A 20) 0 (A 20 0 + 1))) 48 (upd (A 48) p x2)) 72 (upd (A 72) 0 (A 72 0 + 1)) := by
        show va_up (va_up (va_up (va_up A 2 (upd (A 2) (24 + p) x2)) 48 (upd (A 48) p x2)) 20 (upd (A 20) 0 (A 20 0 + 1))) 72 (upd (A 72) 0 (A 72 0 + 1)) = _
        rw [vcm (A := va_up A 2 (upd (A 2) (24 + p) x2)) (i := 48) (j := 20) (by omega)]
      rw [e1] at hh
      show g (A 2 (24 + p)) (A 48 p) _
      rw [e48]
      exact hh
    · rw [if_pos rfl]
      refine xm_pi_i (eX9_takes (K := 5) (by omega) ⟨_, rfl⟩ (m_isOne (n := n) (by omega) c2 c3 (fun p' hp' he' => ?_) (fun hb => ?_)))
      · rw [if_neg (by decide)]
        refine m_in2 (by omega) (fun a1 a2 => absurd ⟨a1, a2⟩ hv) (fun q => ?_)
        rw [if_pos rfl]; exact xm_pi_i fail
      · rw [if_pos rfl]; exact xm_pi_i fail
  · rw [if_pos rfl]
    refine xm_pi_i (eX9_takes (K := 5) (by omega) ⟨_, rfl⟩ (m_isOne (n := n) (by omega) c2 c3 (fun p' hp' he' => (bad_no c3 hp' he' hb).elim) (fun _ => ?_)))
    rw [if_pos rfl]; exact xm_pi_i fail
theorem st_hears (hK : 40 ≤ K) (hI : INV A L F n nb tc) (H : Fin2 g) : xm_Call K sX8_hears 8 [.ref 0, .int x1, .int x2] (HP A L F) (xm_pi fun c h => xm_Call K sX9_hears 9 [.ref 44, .int x1, .int x2] h (xm_pi fun c' h' => g c c' h')) := by
  have hI0 := hI
  obtain ⟨⟨hB, -, -⟩, ⟨hC, hL, hM⟩, -⟩ := hI0
  obtain ⟨⟨c1, c2, c3⟩, -, b5, -, b7⟩ := hB
  have fail : g (-1) (-1) (HP A L F) := H _ _ _ _ _ _ _ hI
  have hw : isW 1 := Or.inl rfl
  refine eX8_hears (K := 5) (by omega) ⟨_, rfl⟩ ⟨_, rfl, c_has (n := n) (by omega) hw c1 c3 (fun p hp he => ?_) (fun hb => ?_)⟩
  · rw [if_neg (by decide)]
    refine c_within (o := 5) (by omega) (by omega) (fun hv => ?_) (fun hv => ?_)
    · rw [if_neg (by decide), he]
      refine ⟨_, rfl, c_get (k := 5) (by omega) hw c1 c3 hp (by omega) ⟨_, rfl, c_set (k := 5) (by omega) hw c1 c3 hp (by omega) ⟨_, rfl, _, ln_20 (j := 1) (by omega), _, sn_20 (j := 1) (by omega), xm_pi_i ?_⟩⟩⟩
      refine eX9_hears (K := 5) (by omega) ⟨_, rfl⟩ (m_isOne (n := n) (by omega) c2 c3 (fun p' hp' he' => ?_) (fun hb => (bad_no c3 hp rfl hb).elim))
      rw [if_neg (by decide)]
      refine m_in2 (by omega) (fun a1 a2 => ?_) (fun q => (q.elim hv.1 hv.2).elim)
      rw [if_neg (by decide)]
      refine ⟨_, rfl, _, ln_50 (by omega), _, rfl, _, sn_50 (by omega), _, rfl, _, ln_72 (j := 1) (by omega), _, sn_72 (j := 1) (by omega), xm_pi_i ?_⟩
      have e50 : A 50 p = A 2 (40 + p) := b7 5 p (Or.inl ⟨by omega, by omega⟩)
      have h1 := (hI.lay1 (o := 5) (a := p) (v := x2) (Or.inl ⟨by omega, hp⟩) hv).led1' (j := 1) (v := A 20 1 + x2) (v' := A 72 1 + x2) (by rw [hL 1 (by omega)])
      have hh := H (A 2 (40 + p)) _ _ _ _ _ _ h1
      have e1 : va_up (va_up (lay2 A 5 p x2) 20 (upd (lay2 A 5 p x2 20) 1 (A 20 1 + x2))) 72 (upd (lay2 A 5 p x2 72) 1 (A 72 1 + x2)) = va_up (va_up (va_up (va_up A 2 (upd (A 2) (40 + p) x2)) 20 (upd (A 20) 1 (A 20 1 + x2))) 50 (upd (A 50) p x2)) 72 (upd (A 72) 1 (A 72 1 + x2)) := by
        show va_up (va_up (va_up (va_up A 2 (upd (A 2) (40 + p) x2)) 50 (upd (A 50) p x2)) 20 (upd (A 20) 1 (A 20 1 + x2))) 72 (upd (A 72) 1 (A 72 1 + x2)) = _
        rw [vcm (A := va_up A 2 (upd (A 2) (40 + p) x2)) (i := 50) (j := 20) (by omega)]
      rw [e1] at hh
      show g (A 2 (40 + p)) (A 50 p) _
      rw [e50]
      exact hh
    · rw [if_pos rfl]
      refine xm_pi_i (eX9_hears (K := 5) (by omega) ⟨_, rfl⟩ (m_isOne (n := n) (by omega) c2 c3 (fun p' hp' he' => ?_) (fun hb => ?_)))
      · rw [if_neg (by decide)]
        refine m_in2 (by omega) (fun a1 a2 => absurd ⟨a1, a2⟩ hv) (fun q => ?_)
        rw [if_pos rfl]; exact xm_pi_i fail
      · rw [if_pos rfl]; exact xm_pi_i fail
  · rw [if_pos rfl]
    refine xm_pi_i (eX9_hears (K := 5) (by omega) ⟨_, rfl⟩ (m_isOne (n := n) (by omega) c2 c3 (fun p' hp' he' => (bad_no c3 hp' he' hb).elim) (fun _ => ?_)))
    rw [if_pos rfl]; exact xm_pi_i fail
theorem st_led (hK : 40 ≤ K) (hI : INV A L F n nb tc) (H : Fin2 g) : xm_Call K sX8_led 8 [.ref 0, .int x] (HP A L F) (xm_pi fun c h => xm_Call K sX9_led 9 [.ref 44, .int x] h (xm_pi fun c' h' => g c c' h')) := by
  have hL := hI.2.1.2.1
  have fail : g (-1) (-1) (HP A L F) := H _ _ _ _ _ _ _ hI
  have bad : (x < 0 ∨ ¬ x < 6) → xm_Call K sX9_led 9 [.ref 44, .int x] (HP A L F) (xm_pi fun c' h' => g (-1) c' h') := by
    intro hb
    refine eX9_led (K := 2) (by omega) ⟨_, rfl⟩ (m_in2 (by omega) (fun a1 a2 => ?_) (fun _ => ?_))
    · obtain ⟨q, hq, e⟩ := i_le 5 (by omega) a1 a2
      rcases hb with hb | hb
      · exact absurd hb a1
      · exact absurd (by rw [e]; exact (n_lt (q := 6) (by omega) (by omega)).mpr (by omega)) hb
    · rw [if_pos rfl]; exact xm_pi_i fail
  refine eX8_led (K := 2) (by omega) ⟨_, rfl⟩ ?_
  by_cases h0 : x < 0
  · rw [if_pos h0]; exact xm_pi_i (bad (Or.inl h0))
  · rw [if_neg h0]
    by_cases h6 : x < 6
    · rw [if_pos h6]
      obtain ⟨q, hq, e⟩ := n_of (n := 6) (by omega) h0 h6
      subst e
      refine ⟨_, rfl, _, ln_20 hq, xm_pi_i (eX9_led (K := 2) (by omega) ⟨_, rfl⟩ (m_in2 (by omega) (fun a1 a2 => ?_) (fun z => ?_)))⟩
      · rw [if_neg (by decide)]
        refine ⟨_, rfl, _, ln_72 hq, xm_pi_i ?_⟩
        rw [hL q hq]; exact H _ _ _ _ _ _ _ hI
      · rcases z with z | z
        · exact absurd z h0
        · exact absurd ((n_lt (p := 5) (by omega) (by omega)).mp z) (by omega)
    · rw [if_neg h6]; exact xm_pi_i (bad (Or.inr h6))
end DDE
