section RSM
variable {A : Nat → Nat → Int32} {L : Nat → Nat → Int64} {F : Nat → Nat → Int32} {g : Int32 → xm_H → Prop} {w n p k j y e m r K : Nat} {x v z : Int32} {h : xm_H} {tc : (Nat → Int32) → Int32} {c : Nat → Int32}
theorem dg_s1 {a q hb : Nat} (hq : q < p) (hb4 : hb < 4) : dg (p + 1) (4 * a + hb) q = dg p a q := by
  unfold dg
  rw [show p + 1 - 1 - q = (p - 1 - q) + 1 by omega, Nat.pow_succ, Nat.mul_comm (4 ^ (p - 1 - q)) 4, ← Nat.div_div_eq_div_mul, show (4 * a + hb) / 4 = a by omega]
theorem dg_s2 {a hb : Nat} (hb4 : hb < 4) : dg (p + 1) (4 * a + hb) p = hb := by
  unfold dg
  rw [show p + 1 - 1 - p = 0 by omega, Nat.pow_zero, Nat.div_one]
  omega
/-- the rests found in the rows below R -/
def RsI (P : Nat → Prop) (n R : Nat) (A F : Nat → Nat → Int32) : Prop := F 44 41 = Int32.ofNat (cR P R) ∧ ∀ r, r < R → P r → (∀ i, i < r → ¬ P i) → ∀ q, q < n → A 71 q = Int32.ofNat (dg n r q)
theorem Mq.rests {A1 F1 : Nat → Nat → Int32} (q : Mq A F A1 F1 n) : Mq A F A1 (va_up F1 44 (va_up (F1 44) 41 v)) n := q.tr ⟨Ag.rf, Ag.up Ag.rf (by simp), fun k hk => by rw [u_eq, u_ne (by omega)], q.2.2.2⟩
theorem Mw.rests (w : Mw A F n y c) : Mw A (va_up F 44 (va_up (F 44) 41 v)) n y c := by
  obtain ⟨⟨a1, a2, a3, a4, a5, a6, a7⟩, a8, a9⟩ := w
  exact ⟨⟨a1, a2, a3, a4, a5, a6, a7⟩, a8, a9⟩
theorem Mw.first {f : Nat → Int32} (w : Mw A F n y c) : Mw (va_up A 71 f) F n y c := by
  obtain ⟨⟨a1, a2, a3, a4, a5, a6, a7⟩, a8, a9⟩ := w
  exact ⟨⟨a1, a2, a3, a4, a5, a6, a7⟩, a8, a9⟩
set_option maxHeartbeats 1000000 in
theorem m_goRest (hM : ModOk A F tc n y c) (h4 : n ≤ 4) : ∀ t, t ≤ n → ∀ (K a : Nat) (A1 F1 : Nat → Nat → Int32) (d : Nat → Int32) (gv : xm_H → Prop), 10 + t < K → a < 4 ^ (n - t) → Mq A F A1 F1 n → Mw A1 F1 n y d → (∀ k, ¬ (24 ≤ k ∧ k < 24 + n) → d k = c k) → (∀ q, q < n - t → d (24 + q) = Int32.ofNat (dg (n - t) a q)) → RsI (rsP tc c n y) n (a * 4 ^ t) A1 F1 → (∀ A' F' d', Mq A F A' F' n → Mw A' F' n y d' → (∀ k, ¬ (24 ≤ k ∧ k < 24 + n) → d' k = c k) → (∀ q, q < n - t → d' (24 + q) = Int32.ofNat (dg (n - t) a q)) → RsI (rsP tc c n y) n ((a + 1) * 4 ^ t) A' F' → gv (HP A' L F')) → xm_Call K sX9_goRest 9 [.ref 44, .int (Int32.ofNat (n - t))] (HP A1 L F1) (xm_pv gv)
  | 0, ht, K, a, A1, F1, d, gv, hK, ha, q1, w1, hd, hq, hR, H => by
    have h256 := four4 h4
    rw [Nat.pow_zero, Nat.mul_one] at hR
    rw [Nat.sub_zero] at ha hq
    refine eX9_goRest (K := 10) hK ⟨_, rfl⟩ ⟨_, rfl, ?_⟩
    rw [w1.1.1, if_neg (n_ge (by omega) (by omega) (by omega))]
    have hdr : d = rwC c n a := by
      funext k
      by_cases hk : 24 ≤ k ∧ k < 24 + n
      · obtain ⟨q, rfl⟩ : ∃ q, k = 24 + q := ⟨k - 24, by omega⟩
        rw [rwC_on (by omega), hq q (by omega)]
      · rw [rwC_off hk, hd k hk]
    have fin : ∀ A' F', Mq A F A' F' n → Mw A' F' n y d → RsI (rsP tc c n y) n (a + 1) A' F' → gv (HP A' L F') := fun A' F' b1 b2 b3 => H A' F' d b1 b2 hd (by rw [Nat.sub_zero]; exact hq) (by rw [Nat.pow_zero, Nat.mul_one]; exact b3)
    refine m_areAtRest (tc := tc) (by omega) w1 (q1.ok hM).2 (fun hr A2 F2 s2 => ?_) (fun hr A2 F2 s2 => ?_)
    · have hP : rsP tc c n y a := by unfold rsP; rw [← hdr]; exact hr
      have q2 := q1.tr (s2.mq q1.2.2.2)
      have w2 := s2.mw w1
      have f41 : F2 44 41 = Int32.ofNat (cR (rsP tc c n y) a) := by rw [s2.2.2 41 (by omega)]; exact hR.1
      have hle := cR_le (P := rsP tc c n y) a
      rw [if_neg (by decide)]
      refine ⟨_, rfl, ?_⟩
      rw [f41]
      by_cases h0 : cR (rsP tc c n y) a = 0
      · rw [h0, if_pos (show Int32.ofNat 0 = 0 from rfl)]
        refine xm_for (n := n) (Q := fun p h => xm_L 10 sX9_goRest kX9_goRest 31 [some (.ref 44), none, some (.int (Int32.ofNat p))] [] h (xm_pv gv)) (fun p h => ∃ A', h = HP A' L F2 ∧ Mq A F A' F2 n ∧ Mw A' F2 n y d ∧ ∀ q, q < p → A' 71 q = Int32.ofNat (dg n a q)) ?_ ?_ 0 _ (Nat.zero_le _) ⟨A2, rfl, q2, w2, fun q hq => absurd hq (by omega)⟩
        · rintro p h hp ⟨A3, rfl, q3, w3, h3⟩ ih
          refine xX9_goRest_31 ⟨_, rfl, ?_⟩
          rw [w3.1.1, if_pos ((n_lt (by omega) (by omega)).mpr hp), n_succ]
          refine ⟨_, rfl, _, rfl, _, ln_66 (by omega), _, sn_71 (by omega), ih _ ⟨_, rfl, ⟨Ag.up q3.1 (by simp), q3.2.1, q3.2.2.1, q3.2.2.2⟩, w3.first, ?_⟩⟩
          rw [u_eq]
          refine fill (s := fun q => Int32.ofNat (dg n a q)) h3 ?_
          rw [(w3.2.1 p (by omega)).2.2.2.1, hq p (by omega)]
        · rintro h ⟨A3, rfl, q3, w3, h3⟩
          refine xX9_goRest_31 ⟨_, rfl, ?_⟩
          rw [w3.1.1, if_neg (n_ge (by omega) (by omega) (Nat.le_refl _))]
          refine ⟨_, rfl, _, p_44_41, xm_pv_i (fin _ _ q3.rests w3.rests ⟨?_, fun r hra hPr hno => ?_⟩)⟩
          · rw [u_eq, u_eq, f41, n_succ, cR_t hP]
          · have hra2 : r = a := by
              by_cases hlt : r < a
              · exact absurd hPr (cR_0 a h0 r hlt)
              · omega
            subst hra2
            exact h3
      · rw [if_neg (show ¬ Int32.ofNat (cR (rsP tc c n y) a) = 0 from fun q => h0 ((n_eq (q := 0) (by omega) (by omega)).mp q))]
        refine ⟨_, rfl, _, p_44_41, xm_pv_i (fin _ _ q2.rests w2.rests ⟨?_, fun r hra hPr hno => ?_⟩)⟩
        · rw [u_eq, u_eq, f41, n_succ, cR_t hP]
        · by_cases hlt : r < a
          · rw [s2.1 71 (by simp)]; exact hR.2 r hlt hPr hno
          · have hra2 : r = a := by omega
            subst hra2
            exact absurd (cR_n r hno) h0
    · have hP : ¬ rsP tc c n y a := by unfold rsP; rw [← hdr]; exact hr
      rw [if_pos rfl]
      refine xm_pv_i (fin _ _ (q1.tr (s2.mq q1.2.2.2)) (s2.mw w1) ⟨by rw [s2.2.2 41 (by omega), cR_f hP]; exact hR.1, fun r hra hPr hno => ?_⟩)
      by_cases hlt : r < a
      · rw [s2.1 71 (by simp)]; exact hR.2 r hlt hPr hno
      · have hra2 : r = a := by omega
        subst hra2
        exact absurd hPr hP
  | t + 1, ht, K, a, A1, F1, d, gv, hK, ha, q1, w1, hd, hq, hR, H => by
    have ih := m_goRest hM h4 t (by omega)
    obtain ⟨p, hp⟩ : ∃ p, p = n - (t + 1) := ⟨_, rfl⟩
    rw [← hp] at ha hq H ⊢
    have hp1 : n - t = p + 1 := by omega
    rw [hp1] at ih
    have hx4 : (4 : Nat) ^ (t + 1) = 4 ^ t * 4 := Nat.pow_succ ..
    have hp4 : (4 : Nat) ^ (p + 1) = 4 ^ p * 4 := Nat.pow_succ ..
    refine eX9_goRest (K := 10 + (t + 1)) hK ⟨_, rfl⟩ ⟨_, rfl, ?_⟩
    rw [w1.1.1, if_pos ((n_lt (by omega) (by omega)).mpr (by omega))]
    refine xm_for (n := 4) (Q := fun hb h => xm_L (10 + (t + 1)) sX9_goRest kX9_goRest 6 [some (.ref 44), some (.int (Int32.ofNat p)), some (.int (Int32.ofNat hb))] [] h (xm_pv gv)) (fun hb h => ∃ A' F' d', h = HP A' L F' ∧ Mq A F A' F' n ∧ Mw A' F' n y d' ∧ (∀ k, ¬ (24 ≤ k ∧ k < 24 + n) → d' k = c k) ∧ (∀ q, q < p → d' (24 + q) = Int32.ofNat (dg p a q)) ∧ RsI (rsP tc c n y) n ((4 * a + hb) * 4 ^ t) A' F') ?_ ?_ 0 _ (Nat.zero_le _) ⟨A1, F1, d, rfl, q1, w1, hd, hq, ?_⟩
    · rintro hb h hb4 ⟨A2, F2, d2, rfl, q2, w2, hd2, hq2, hR2⟩ ih2
      refine xX9_goRest_6 ?_
      rw [if_pos (show Int32.ofNat hb < (4 : Int32) from (n_lt (q := 4) (by omega) (by omega)).mpr hb4)]
      refine ⟨_, rfl, _, sn_66 (by omega), ?_⟩
      rw [n_succ, n_succ]
      refine ih (10 + (t + 1)) (4 * a + hb) _ F2 (upd d2 (24 + p) (Int32.ofNat hb)) _ (by omega) (by omega) ⟨Ag.up q2.1 (by simp), q2.2.1, q2.2.2.1, q2.2.2.2.hab (by omega)⟩ (mw_habit w2 (by omega)) (fun k hk => by rw [p_ne (by omega)]; exact hd2 k hk) (fun q hq => ?_) ⟨hR2.1, by rw [u_ne (by omega)]; exact hR2.2⟩ (fun A3 F3 d3 q3 w3 hd3 hq3 hR3 => ?_)
      · by_cases hqp : q = p
        · subst hqp; rw [p_eq, dg_s2 hb4]
        · rw [p_ne (by omega), dg_s1 (by omega) hb4]; exact hq2 q (by omega)
      · refine ih2 _ ⟨A3, F3, d3, rfl, q3, w3, hd3, fun q hq => ?_, hR3⟩
        rw [hq3 q (by omega), dg_s1 hq hb4]
    · rintro h ⟨A2, F2, d2, rfl, q2, w2, hd2, hq2, hR2⟩
      refine xX9_goRest_6 ?_
      rw [if_neg (by decide)]
      refine xm_pv_i (H A2 F2 d2 q2 w2 hd2 hq2 ?_)
      rw [show (a + 1) * 4 ^ (t + 1) = (4 * a + 4) * 4 ^ t by rw [hx4, show 4 * a + 4 = (a + 1) * 4 by omega, Nat.mul_assoc, Nat.mul_comm 4 (4 ^ t)]]
      exact hR2
    · rw [show (4 * a + 0) * 4 ^ t = a * 4 ^ (t + 1) by rw [hx4, Nat.add_zero, Nat.mul_comm 4 a, Nat.mul_assoc, Nat.mul_comm 4 (4 ^ t)]]
      exact hR
theorem i_okR (hn : n ≤ 8) : okR n x ↔ (¬ x < -1 ∧ ¬ Int32.ofNat n - 1 < x) := by
  have e1 : (Int32.ofNat n - 1).toInt = (n : Int) - 1 := by
    have : ∀ n, n ≤ 8 → (Int32.ofNat n - 1).toInt = (n : Int) - 1 := by decide +kernel
    exact this n hn
  have t0 : (0 : Int32).toInt = 0 := rfl
  have tm : (-1 : Int32).toInt = -1 := rfl
  have ex : x = -1 ↔ x.toInt = -1 := by rw [← tm, Int32.toInt_inj]
  unfold okR
  rw [ex, Int32.lt_iff_toInt_lt, Int32.lt_iff_toInt_lt, Int32.lt_iff_toInt_lt, Int32.lt_iff_toInt_lt, e1, n_ti (by omega)]
  omega
theorem r_rest (hK : 15 < K) (hM : ModOk A F tc n y c) (H : okR n x → n ≤ 4 → ∀ A' F', Mq A F A' F' n → rsG tc c n y x (fun v => g v (HP A' L F'))) (H3 : okR n x → ¬ n ≤ 4 → g (-5) (HP A L F)) (H2 : ¬ okR n x → g (-1) (HP A L F)) : xm_Call K sX9_rest 9 [.ref 44, .int x] (HP A L F) (xm_pi g) := by
  have hn8 := hM.1.1.2.1
  refine eX9_rest (K := 15) hK ⟨_, rfl⟩ ⟨_, rfl, ?_⟩
  rw [hM.1.1.1]
  refine m_in2 (by omega) (fun a1 a2 => ?_) (fun q => ?_)
  · rw [if_neg (by decide)]
    have ok := (i_okR hn8).mpr ⟨a1, a2⟩
    refine ⟨_, rfl, ?_⟩
    rw [hM.1.1.1]
    by_cases h4 : n ≤ 4
    · rw [if_neg (show ¬ (4 : Int32) < Int32.ofNat n from n_ge (p := 4) (by omega) (by omega) h4)]
      have h256 := four4 h4
      refine m_layNow (by omega) hM.1 (fun A1 F1 q1 _ w1 => ⟨_, p_44_41, ?_⟩)
      have st := m_goRest (L := L) hM h4 n (Nat.le_refl _) 15 0 A1 (va_up F1 44 (va_up (F1 44) 41 0)) c
      rw [Nat.sub_self] at st
      refine st _ (by omega) (by decide) q1.rests w1.rests (fun _ _ => rfl) (fun q hq => absurd hq (by omega)) ⟨by rw [u_eq, u_eq, Nat.zero_mul]; rfl, fun r hr => absurd hr (by omega)⟩ (fun A2 F2 d2 q2 w2 _ _ hR => ?_)
      rw [show (0 + 1) * 4 ^ n = 4 ^ n by omega] at hR
      have hle := cR_le (P := rsP tc c n y) (4 ^ n)
      have hh := H ok h4 A2 F2 q2
      rcases ok with hx | ⟨hx0, hxn⟩
      · rw [if_pos (by rw [hx]; decide)]
        refine ⟨_, rfl, xm_pi_i ?_⟩
        rw [hR.1]; exact hh.1 hx
      · rw [if_neg hx0]
        obtain ⟨p, hp, he⟩ := n_of (by omega) hx0 hxn
        have hg := hh.2 p hp he
        refine ⟨_, rfl, ?_⟩
        rw [hR.1]
        by_cases h0 : cR (rsP tc c n y) (4 ^ n) = 0
        · rw [h0, if_pos (show Int32.ofNat 0 = 0 from rfl)]
          exact xm_pi_i (hg.2 (cR_0 _ h0))
        · rw [if_neg (show ¬ Int32.ofNat (cR (rsP tc c n y) (4 ^ n)) = 0 from fun q => h0 ((n_eq (q := 0) (by omega) (by omega)).mp q))]
          obtain ⟨r, hr, hPr, hno⟩ : ∃ r, r < 4 ^ n ∧ rsP tc c n y r ∧ ∀ i, i < r → ¬ rsP tc c n y i := by
            have key : ∀ m, cR (rsP tc c n y) m ≠ 0 → ∃ r, r < m ∧ rsP tc c n y r ∧ ∀ i, i < r → ¬ rsP tc c n y i := by
              intro m
              induction m with
              | zero => intro h; exact absurd rfl h
              | succ m ih =>
                intro h
                by_cases hm : cR (rsP tc c n y) m = 0
                · by_cases hP : rsP tc c n y m
                  · exact ⟨m, by omega, hP, cR_0 m hm⟩
                  · rw [cR_f hP] at h; exact absurd hm h
                · obtain ⟨r, a, b⟩ := ih hm
                  exact ⟨r, by omega, b⟩
            exact key _ h0
          rw [he]
          refine ⟨_, rfl, _, ln_71 (by omega), xm_pi_i ?_⟩
          rw [hR.2 r hr hPr hno p hp]
          exact hg.1 r hr hPr hno
    · rw [if_pos (show (4 : Int32) < Int32.ofNat n from (n_lt (p := 4) (by omega) (by omega)).mpr (by omega))]
      exact xm_pi_i (H3 ok h4)
  · rw [if_pos rfl]
    refine xm_pi_i (H2 (fun ok => ?_))
    have := (i_okR hn8).mp ok
    exact q.elim this.1 this.2
end RSM
