section DDC
variable {A : Nat → Nat → Int32} {L : Nat → Nat → Int64} {F : Nat → Nat → Int32} {g : Int32 → Int32 → xm_H → Prop} {gv : xm_H → Prop} {w n p k j y e m r o a d K nb : Nat} {x x1 x2 x3 v z : Int32} {h : xm_H} {tc : (Nat → Int32) → Int32} {c : Nat → Int32}
theorem mn9_le (hd : d ≤ 40) : mn9 d ≤ 39 ∧ mn9 d ≤ d := by unfold mn9; split <;> omega
theorem Bs.lays {A' F' : Nat → Nat → Int32} (hB : Bs A F n) (hp : plc n o a) (hv : mayV o v) (h2 : A' 2 = upd (A 2) (cel o a) v) (hm : A' (mC o) = upd (A (mC o)) (mI o a) v) (hk : ∀ k, k ∈ [4, 66, 67, 68, 69] → A' k = A k) (hk2 : ∀ k, 45 ≤ k → k ≤ 53 → k ≠ mC o → A' k = A k) (hF : F' 1 1 = F 1 1 ∧ F' 44 1 = F 44 1) : Bs A' F' n := by
  have hb := hB.lay hp hv
  refine hb.to (by rw [h2, lay2_2]) (by rw [hk 4 (by simp)]; exact hB.2.1.2.1) (fun p h1 h2 => ?_) (fun k h1 h2 => ?_) hF
  · rw [hk 66 (by simp), hk 67 (by simp), hk 68 (by simp), hk 69 (by simp)]; exact hB.2.1.2.2 p h1 h2
  · by_cases hkm : k = mC o
    · subst hkm; rw [hm, lay2_m]
    · rw [hk2 k h1 h2 hkm, lay2_o (by omega) hkm]
theorem st_mend (hK : 40 ≤ K) (hI : INV A L F n nb tc) (H : Fin2 g) : xm_Call K sX8_mend 8 [.ref 0, .int x1, .int x2, .int x3] (HP A L F) (xm_pi fun c h => xm_Call K sX9_mend 9 [.ref 44, .int x1, .int x2, .int x3] h (xm_pi fun c' h' => g c c' h')) := by
  have hI0 := hI
  obtain ⟨⟨hB, -, -⟩, ⟨hC, hL, hM⟩, -⟩ := hI0
  have hB0 := hB
  obtain ⟨⟨c1, c2, c3⟩, -, b5, -, b7⟩ := hB0
  obtain ⟨d, u, hdu, f3, f4, f11, f12, hent⟩ := hC
  have fail : g (-1) (-1) (HP A L F) := H _ _ _ _ _ _ _ hI
  refine eX8_mend (K := 5) (by omega) ⟨_, rfl⟩ ⟨_, rfl, c_cellAny (n := n) (by omega) c1 c3 (fun o a hp e1 e2 => ?_) (fun hno => ?_)⟩
  · have hx := plc_x c3 hp
    have hc := cel_lt hx
    have ho : o ≤ 10 := by unfold plx at hx; omega
    have hmc := mC_ge (o := o)
    have hmc2 := hmc.2 ho
    rw [if_neg (xs_nn (by omega)), e2]
    refine c_within (by omega) ho (fun hv => ?_) (fun hv => ?_)
    · rw [if_neg (by decide)]
      refine ⟨_, rfl, _, rfl, _, ln_2 hc, ?_⟩
      by_cases heq : A 2 (cel o a) = x3
      · rw [if_pos heq]
        refine xm_pi_i ?_
        refine eX9_mend (K := 5) (by omega) ⟨_, rfl⟩ (m_isPlace (n := n) (by omega) c2 c3 (fun o' a' hp' e1' e2' => ?_) (fun hno => (hno o a hp e1 rfl).elim))
        rw [if_neg (by decide), e1]
        refine m_mayHave (by omega) ho (fun _ => ?_) (fun q => absurd hv q)
        rw [if_neg (by decide)]
        exact m_changes (d := d) (z := A 2 (cel o a)) (by omega) (by omega) f11 hx (b7 o a hx) (fun _ => xm_pi_i (H _ _ _ _ _ _ _ hI)) (fun q => absurd heq q)
      · rw [if_neg heq]
        refine ⟨_, rfl, c_note (d := d) (by omega) (by omega) f3 (fun A1 F1 a1 a2 a3 a4 a5 => ?_)⟩
        have e12 : A1 2 = A 2 := a1 2 (by simp)
        refine ⟨_, rfl, _, rfl, _, sn_2 hc, xm_pi_i ?_⟩
        rw [e12]
        have hF1 : F1 44 = F 44 := a2 44 (by simp)
        have hA2m : va_up A1 2 (upd (A 2) (cel o a) x3) (mC o) = A (mC o) := by rw [u_ne (by omega), a1 _ (by simp; omega)]
        refine eX9_mend (K := 5) (by omega) ⟨_, rfl⟩ (m_isPlace (n := n) (by omega) (by rw [hF1]; exact c2) c3 (fun o' a' hp' e1' e2' => ?_) (fun hno => (hno o a hp e1 rfl).elim))
        rw [if_neg (by decide), e1]
        refine m_mayHave (by omega) ho (fun _ => ?_) (fun q => absurd hv q)
        rw [if_neg (by decide)]
        refine m_changes (d := d) (z := A 2 (cel o a)) (by omega) (by omega) (by rw [hF1]; exact f11) hx (by rw [hA2m]; exact b7 o a hx) (fun q => absurd q heq) (fun _ A3 F3 d1 d2 d3 d4 d5 d6 d7 => xm_pi_i (H _ _ _ _ n nb tc (hI.re ?_ ?_ ?_ ?_ ?_ ?_ ?_)))
        · refine hB.lays (o := o) (a := a) (v := x3) hp hv ?_ ?_ (fun k hk => ?_) (fun k k1 k2 k3 => ?_) ⟨by rw [d3 1 (by simp), a2 1 (by simp)], by rw [d4 1 (by omega) (by omega), hF1]⟩
          · rw [d1 2 (by simp; omega), u_eq]
          · rw [d2, hA2m]
          · have hkk : k ∉ [mC o, 54, 55, 56, 57] ∧ k ≠ 2 ∧ k ∉ [17, 18, 19] := by
              simp at hk
              rcases hk with rfl | rfl | rfl | rfl | rfl <;> (simp; omega)
            rw [d1 k hkk.1, u_ne hkk.2.1, a1 k hkk.2.2]
          · rw [d1 k (by simp; omega), u_ne (by omega), a1 k (by simp; omega)]
        · intro k hk
          have hkk : k ∉ [mC o, 54, 55, 56, 57] ∧ k ≠ 2 ∧ k ∉ [17, 18, 19] := by
            simp at hk
            rcases hk with rfl | rfl | rfl | rfl | rfl | rfl | rfl | rfl | rfl | rfl | rfl | rfl | rfl | rfl <;> (simp; omega)
          rw [d1 k hkk.1, u_ne hkk.2.1, a1 k hkk.2.2]
        · intro k hk
          have hkk : k ∉ [44] ∧ k ∉ [16] := by
            simp at hk
            rcases hk with rfl | rfl | rfl | rfl | rfl | rfl | rfl | rfl | rfl <;> simp
          rw [d3 k hkk.1, a2 k hkk.2]
        · intro k hk
          have hkk : k ≠ 11 ∧ k ≠ 12 := by simp at hk; omega
          rw [d4 k hkk.1 hkk.2, hF1]
        · have hm9 := mn9_le (d := d) (by omega)
          refine ⟨mn9 d + 1, 0, by omega, by rw [d3 16 (by simp)]; exact a3, by rw [d3 16 (by simp)]; exact a4, d5, d6, fun k hk => ?_⟩
          have c17 : ∀ i, i ∈ [17, 18, 19] → A3 i = A1 i := fun i hi => by
            have : i ∉ [mC o, 54, 55, 56, 57] ∧ i ≠ 2 := by simp at hi; simp; omega
            rw [d1 i this.1, u_ne this.2]
          have c54 : ∀ i, i ∈ [54, 55, 56, 57] → va_up A1 2 (upd (A 2) (cel o a) x3) i = A i := fun i hi => by
            have : i ≠ 2 ∧ i ∉ [17, 18, 19] := by simp at hi; simp; omega
            rw [u_ne this.1, a1 i this.2]
          rw [c17 17 (by simp), c17 18 (by simp), c17 19 (by simp)]
          have g54 := d7 54 (by simp)
          have g55 := d7 55 (by simp)
          have g56 := d7 56 (by simp)
          have g57 := d7 57 (by simp)
          have g17 := a5 17 (by simp)
          have g18 := a5 18 (by simp)
          have g19 := a5 19 (by simp)
          rw [c54 54 (by simp)] at g54
          rw [c54 55 (by simp)] at g55
          rw [c54 56 (by simp)] at g56
          rw [c54 57 (by simp)] at g57
          by_cases hkd : k < mn9 d
          · rw [g54.1 k hkd, g55.1 k hkd, g56.1 k hkd, g57.1 k hkd, g17.1 k hkd, g18.1 k hkd, g19.1 k hkd]
            exact hent (k + (d - mn9 d)) (by omega)
          · have : k = mn9 d := by omega
            subst this
            rw [g54.2, g55.2, g56.2, g57.2, g17.2, g18.2, g19.2]
            exact ⟨o, a, hp, rfl, rfl, rfl, rfl, rfl, b5 o a hp, hv⟩
        · refine hL.to ⟨?_, ?_⟩
          · rw [d1 20 (by simp; omega), u_ne (by omega), a1 20 (by simp)]
          · rw [d1 72 (by simp; omega), u_ne (by omega), a1 72 (by simp)]
        · refine hM.to (Nat.le_refl _) ⟨?_, ?_, ?_, ?_⟩ ⟨?_, ?_, ?_, ?_, ?_⟩
          · rw [d1 22 (by simp; omega), u_ne (by omega), a1 22 (by simp)]
          · rw [d1 23 (by simp; omega), u_ne (by omega), a1 23 (by simp)]
          · rw [d1 73 (by simp; omega), u_ne (by omega), a1 73 (by simp)]
          · rw [d1 74 (by simp; omega), u_ne (by omega), a1 74 (by simp)]
          · rw [d3 0 (by simp), a2 0 (by simp)]
          · rw [d3 21 (by simp), a2 21 (by simp)]
          · rw [d4 45 (by omega) (by omega), hF1]
          · rw [d4 46 (by omega) (by omega), hF1]
          · rw [d4 47 (by omega) (by omega), hF1]
    · rw [if_pos rfl]
      refine xm_pi_i (eX9_mend (K := 5) (by omega) ⟨_, rfl⟩ (m_isPlace (n := n) (by omega) c2 c3 (fun o' a' hp' e1' e2' => ?_) (fun _ => ?_)))
      · rw [if_neg (by decide)]
        refine m_mayHave (by omega) ho (fun q => absurd q hv) (fun _ => ?_)
        rw [if_pos rfl]; exact xm_pi_i fail
      · rw [if_pos rfl]; exact xm_pi_i fail
  · rw [if_pos (by decide)]
    refine xm_pi_i (eX9_mend (K := 5) (by omega) ⟨_, rfl⟩ (m_isPlace (n := n) (by omega) c2 c3 (fun o' a' hp' e1' e2' => (hno o' a' hp' e1' e2').elim) (fun _ => ?_)))
    rw [if_pos rfl]; exact xm_pi_i fail
end DDC
