section DRM
variable {A : Nat → Nat → Int32} {L : Nat → Nat → Int64} {F : Nat → Nat → Int32} {g : Int32 → xm_H → Prop} {gv : xm_H → Prop} {w n p k j y e m K : Nat} {x v z : Int32} {h : xm_H} {tc : (Nat → Int32) → Int32} {c : Nat → Int32}
theorem Rng.snow (hR : Rng c) (hv : bd v 99) (hj : j < 8) : Rng (upd c (56 + j) v) := by
  refine ⟨fun q hq => ?_, fun i hi => ?_, by rw [p_ne (by omega)]; exact hR.2.2⟩
  · rw [p_ne (by omega), p_ne (by omega), p_ne (by omega)]; exact hR.1 q hq
  · by_cases hij : i = j
    · subst hij; rw [p_eq]; exact hv
    · rw [p_ne (by omega)]; exact hR.2.1 i hi
theorem n_bd {a : Nat} (h : a < 100) : bd (Int32.ofNat a) 99 := by
  unfold bd
  rw [n_ti (by omega)]; omega
theorem stC_Rng {mo : Int32} (hR : Rng c) (hn : n ≤ 8) : Rng (stC c n y z mo) := by
  have h1 : Rng (upd c (56 + y % 8) (Int32.ofNat (uS z 8 % 100))) := hR.snow (n_bd (Nat.mod_lt _ (by omega))) (Nat.mod_lt _ (by omega))
  unfold stC
  by_cases h : 0 < n ∧ Int32.ofNat (uS z 24 % 12) < mo
  · rw [if_pos h]
    have := Nat.mod_lt (uS z 16) h.1
    exact h1.hab (by omega)
  · rw [if_neg h]; exact h1
theorem lfC_Rng {mo : Int32} (hR : Rng c) (hn : n ≤ 8) : ∀ k, Rng (lfC tc n y mo z c k)
  | 0 => hR
  | k + 1 => yrS_Rng (stC_Rng (lfC_Rng hR hn k) hn) hn
/-- the reference holds the world c, but for the snow -/
def Mx (A F : Nat → Nat → Int32) (n y : Nat) (c : Nat → Int32) : Prop := ∀ v, Mw A (va_up F 44 (va_up (F 44) 36 v)) n y (upd c (56 + y % 8) v)
theorem Mx.of (hw : Mw A F n y c) : Mx A F n y c := fun v => mw_ext hw (fun k _ hk => p_ne (by have := Nat.mod_lt y (show 0 < 8 by omega); omega)) p_eq
theorem Mx.purse (hx : Mx A F n y c) (hp : p < 8) : A 68 p = c (8 + p) := by
  have h := ((hx 0).2.1 p hp).2.1
  rw [p_ne (by omega)] at h
  exact h
theorem rdrawn_loop (hM : ModOk A F tc n y c) (hR : Rng c) {lv ld : Nat} {x2 x3 : Int32} (e1 : x2 / 10000 = Int32.ofNat lv) (hlv : lv ≤ 30) (hld : ld ≤ 40) (hp : x3 = -1 ∨ (x3 = Int32.ofNat p ∧ p < n)) (H : ∀ A' F', Mq A F A' F' n → g (dwS tc c n y (rmI x2 100) z x3 p ld lv) (HP A' L F')) : xm_L 6 sX9_drawn kX9_drawn 40 [some (.ref 44), none, some (.int x2), some (.int x3), some (.int (Int32.ofNat ld)), some (.int z), some (.int (0 : Int32)), some (.int (0 : Int32)), none] [] (HP A L F) (xm_pi g) := by
  have hn8 := hM.1.1.2.1
  refine xm_for (n := lv) (Q := fun i h => xm_L 6 sX9_drawn kX9_drawn 40 [some (.ref 44), none, some (.int x2), some (.int x3), some (.int (Int32.ofNat ld)), some (.int (zK z (ld * i))), some (.int (dwS tc c n y (rmI x2 100) z x3 p ld i)), some (.int (Int32.ofNat i)), none] [] h (xm_pi g)) (fun _ h => ∃ A' F', h = HP A' L F' ∧ Mq A F A' F' n) ?_ ?_ 0 _ (Nat.zero_le _) ⟨A, F, rfl, Mq.rf hM.1.2.2.2.2.2⟩
  · rintro i h hi ⟨A1, F1, rfl, q1⟩ ih
    have hM1 := q1.ok hM
    refine xX9_drawn_40 ⟨by decide, ?_⟩
    rw [e1, if_pos ((n_lt (by omega) (by omega)).mpr hi)]
    refine m_layNow (by omega) hM1.1 (fun A2 F2 q2 _ w2 => ⟨_, p_44_42, ?_⟩)
    have w2' : Mw A2 (va_up F2 44 (va_up (F2 44) 42 0)) n y c := by
      obtain ⟨⟨a1, a2, a3, a4, a5, a6, a7⟩, a8, a9⟩ := w2
      exact ⟨⟨a1, a2, a3, a4, a5, a6, a7⟩, a8, a9⟩
    have q2' : Mq A F A2 (va_up F2 44 (va_up (F2 44) 42 0)) n := (q1.tr q2).tr ⟨Ag.rf, Ag.up Ag.rf (by simp), fun k hk => by rw [u_eq, u_ne (by omega)], q2.2.2.2⟩
    have key := xm_for (n := ld) (Q := fun m h => xm_L 6 sX9_drawn kX9_drawn 52 [some (.ref 44), none, some (.int x2), some (.int x3), some (.int (Int32.ofNat ld)), some (.int (zK (zK z (ld * i)) m)), some (.int (dwS tc c n y (rmI x2 100) z x3 p ld i)), some (.int (Int32.ofNat i)), some (.int (Int32.ofNat m))] [] h (xm_pi g)) (fun m h => ∃ A' F', h = HP A' L F' ∧ Mq A F A' F' n ∧ Mx A' F' n (yY y m) (lfC tc n y (rmI x2 100) (zK z (ld * i)) c m) ∧ F' 44 42 = lfP tc n y (rmI x2 100) (zK z (ld * i)) c m) ?_ ?_ 0 _ (Nat.zero_le _) ⟨A2, _, rfl, q2', Mx.of w2', rfl⟩
    · exact key
    · rintro m h hm ⟨A3, F3, rfl, q3, x3', f3⟩ ih2
      have hy := yY_lt (y := y) hM.1.1.2.2.1 m
      have hm8 := Nat.mod_lt (yY y m) (show 0 < 8 by omega)
      have hn3 : F3 44 1 = Int32.ofNat n := by rw [q3.2.2.1 1 (by omega)]; exact hM.1.1.1
      have step : ∀ B G, Mq A F B G n → Mw B G n (yY y m) (stC (lfC tc n y (rmI x2 100) (zK z (ld * i)) c m) n (yY y m) (zK (zK z (ld * i)) (m + 1)) (rmI x2 100)) → G 44 42 = lfP tc n y (rmI x2 100) (zK z (ld * i)) c m → xm_Call 6 sX9_goYear 9 [.ref 44] (HP B L G) (xm_pv fun h6 => xm_L 6 sX9_drawn kX9_drawn 52 [some (.ref 44), none, some (.int x2), some (.int x3), some (.int (Int32.ofNat ld)), some (.int ((zK (zK z (ld * i)) m * (1103515245 : Int32)) + (12345 : Int32))), some (.int (dwS tc c n y (rmI x2 100) z x3 p ld i)), some (.int (Int32.ofNat i)), some (.int (Int32.ofNat m + (1 : Int32)))] [] h6 (xm_pi g)) := by
        intro B G qB wB fB
        refine m_goYear (tc := tc) (by omega) wB (qB.ok hM).2 qB.2.2.2 (stC_Rng (lfC_Rng hR hn8 m) hn8) (fun A4 F4 q4 _ w4 d1 _ => ?_)
        rw [n_succ]
        refine ih2 _ ⟨A4, F4, rfl, qB.tr q4, fun v => ?_, by rw [d1, fB]; rfl⟩
        have hy8 := Nat.mod_lt (min 199 (yY y m + 1)) (show 0 < 8 by omega)
        have w5 := w4 (upd (lfC tc n y (rmI x2 100) (zK z (ld * i)) c (m + 1)) (56 + min 199 (yY y m + 1) % 8) (B 52 (min 199 (yY y m + 1) % 8))) (fun k _ hk => p_ne (by omega)) p_eq
        refine mw_ext w5 (fun k _ hk => ?_) p_eq
        show upd (lfC tc n y (rmI x2 100) (zK z (ld * i)) c (m + 1)) (56 + min 199 (yY y m + 1) % 8) v k = _
        rw [p_ne (by omega), p_ne (by omega)]
      refine xX9_drawn_52 ?_
      rw [if_pos ((n_lt (by omega) (by omega)).mpr hm)]
      refine ⟨by decide, ?_⟩
      rw [n_us n_u8 (by omega), n_us n_u24 (by omega), n_us n_u16 (by omega), n_us n_u20 (by omega), n_r8, n_r24, n_r20]
      refine ⟨_, p_44_36, _, rfl, ?_⟩
      rw [show va_up F3 44 (va_up (F3 44) 36 (Int32.ofNat (uS (zK (zK z (ld * i)) m * 1103515245 + 12345) 8 % 100))) 44 1 = Int32.ofNat n from hn3]
      have w3 := x3' (Int32.ofNat (uS (zK (zK z (ld * i)) m * 1103515245 + 12345) 8 % 100))
      have q3' : Mq A F A3 (va_up F3 44 (va_up (F3 44) 36 (Int32.ofNat (uS (zK (zK z (ld * i)) m * 1103515245 + 12345) 8 % 100)))) n := q3.tr ⟨Ag.rf, Ag.up Ag.rf (by simp), fun k hk => by rw [u_eq, u_ne (by omega)], q3.2.2.2⟩
      have e5 : ∀ d : Nat → Int32, stC d n (yY y m) (zK (zK z (ld * i)) (m + 1)) (rmI x2 100) = if 0 < n ∧ Int32.ofNat (uS (zK (zK z (ld * i)) m * 1103515245 + 12345) 24 % 12) < rmI x2 100 then upd (upd d (56 + yY y m % 8) (Int32.ofNat (uS (zK (zK z (ld * i)) m * 1103515245 + 12345) 8 % 100))) (24 + uS (zK (zK z (ld * i)) m * 1103515245 + 12345) 16 % n) (Int32.ofNat (uS (zK (zK z (ld * i)) m * 1103515245 + 12345) 20 % 4)) else upd d (56 + yY y m % 8) (Int32.ofNat (uS (zK (zK z (ld * i)) m * 1103515245 + 12345) 8 % 100)) := fun _ => rfl
      by_cases h0 : 0 < n
      · rw [if_pos (show (0 : Int32) < Int32.ofNat n from (n_lt (p := 0) (by omega) (by omega)).mpr h0)]
        refine ⟨by decide, by decide, ?_⟩
        show (if Int32.ofNat (uS (zK (zK z (ld * i)) m * 1103515245 + 12345) 24 % 12) < rmI x2 100 then _ else _)
        by_cases h1 : Int32.ofNat (uS (zK (zK z (ld * i)) m * 1103515245 + 12345) 24 % 12) < rmI x2 100
        · rw [if_pos h1]
          have hpn : uS (zK (zK z (ld * i)) m * 1103515245 + 12345) 16 % n < n := Nat.mod_lt _ h0
          refine ⟨_, rfl, Int32.ofNat n, by rw [← hn3]; rfl, fun q => absurd ((n_eq (q := 0) (by omega) (by omega)).mp q) (by omega), by decide, ?_⟩
          rw [n_r16 hn8 h0]
          refine ⟨_, sn_66 (by omega), step _ _ ⟨Ag.up q3'.1 (by simp), q3'.2.1, q3'.2.2.1, q3'.2.2.2.hab hpn⟩ ?_ f3⟩
          rw [e5, if_pos ⟨h0, h1⟩]
          exact mw_habit w3 hpn
        · rw [if_neg h1]
          refine step _ _ q3' ?_ f3
          rw [e5, if_neg (fun q => h1 q.2)]
          exact w3
      · rw [if_neg (show ¬ (0 : Int32) < Int32.ofNat n from fun q => h0 ((n_lt (p := 0) (by omega) (by omega)).mp q))]
        refine step _ _ q3' ?_ f3
        rw [e5, if_neg (fun q => h0 q.1)]
        exact w3
    · rintro h ⟨A3, F3, rfl, q3, x3', f3⟩
      refine xX9_drawn_52 ?_
      rw [if_neg (n_ge (by omega) (by omega) (Nat.le_refl _)), n_succ]
      have hi2 := ih _ ⟨A3, F3, rfl, q3⟩
      have e5 : dwS tc c n y (rmI x2 100) z x3 p ld (i + 1) = dwS tc c n y (rmI x2 100) z x3 p ld i + (if x3 = -1 then lfP tc n y (rmI x2 100) (zK z (ld * i)) c ld else lfC tc n y (rmI x2 100) (zK z (ld * i)) c ld (8 + p)) := rfl
      rw [e5, show ld * (i + 1) = ld * i + ld from rfl, ← zK_add] at hi2
      rcases hp with h3 | ⟨hx, hpn⟩
      · rw [if_pos h3] at hi2
        rw [if_pos (by rw [h3]; decide)]
        refine ⟨_, rfl, ?_⟩
        rw [f3]
        exact hi2
      · have h3 : ¬ x3 = -1 := by
          rw [hx]
          intro q
          have h4 : ¬ Int32.ofNat p < 0 := xs_nn (by omega)
          rw [q] at h4
          exact h4 (by decide)
        rw [if_neg h3] at hi2
        rw [if_neg (by rw [hx]; exact xs_nn (by omega))]
        rw [hx] at hi2 ⊢
        refine ⟨_, rfl, _, ln_68 (by omega), ?_⟩
        rw [x3'.purse (by omega)]
        exact hi2
  · rintro h ⟨A1, F1, rfl, q1⟩
    refine xX9_drawn_40 ⟨by decide, ?_⟩
    rw [e1, if_neg (n_ge (by omega) (by omega) (Nat.le_refl _))]
    exact xm_pi_i (H A1 F1 q1)
theorem r_drawn (hK : 6 < K) (hM : ModOk A F tc n y c) (hR : Rng c) {x2 x3 : Int32} (H : okD n x2 x3 → ∀ lv ld p, x2 / 10000 = Int32.ofNat lv → rmI (x2 / 100) 100 = Int32.ofNat ld → lv ≤ 30 → ld ≤ 40 → (x3 = -1 ∨ (x3 = Int32.ofNat p ∧ p < n)) → ∀ A' F', Mq A F A' F' n → g (dwS tc c n y (rmI x2 100) z x3 p ld lv) (HP A' L F')) (H2 : ¬ okD n x2 x3 → g (-1) (HP A L F)) : xm_Call K sX9_drawn 9 [.ref 44, .int z, .int x2, .int x3] (HP A L F) (xm_pi g) := by
  have hn8 := hM.1.1.2.1
  refine eX9_drawn (K := 6) hK ⟨_, rfl⟩ ⟨by decide, by decide, ?_⟩
  by_cases a0 : x2 < 0
  · rw [if_pos a0]; exact xm_pi_i (H2 (fun q => (d_pos q.1.1).1 a0))
  · rw [if_neg a0]
    refine ⟨by decide, m_in2 (by omega) (fun a1 a2 => ?_) (fun q => ?_)⟩
    · rw [if_neg (by decide)]
      show xm_Call 6 sX9_in 99 [.int (rmI (x2 / 100) 100), .int (1 : Int32), .int (40 : Int32)] _ _
      refine m_in2 (by omega) (fun a3 a4 => ?_) (fun q => ?_)
      · rw [if_neg (by decide)]
        refine ⟨by decide, ?_⟩
        show (if 12 < rmI x2 100 then _ else _)
        by_cases a5 : 12 < rmI x2 100
        · rw [if_pos a5]; exact xm_pi_i (H2 (fun q => q.2.2.1 a5))
        · rw [if_neg a5]
          obtain ⟨lv, hlv, e1⟩ := n_ofle (b := 30) (by omega) a1 a2
          obtain ⟨ld, hld, e2⟩ := n_ofle (b := 40) (by omega) a3 a4
          have e2' : x2 / 100 - x2 / 100 / 100 * 100 = Int32.ofNat ld := e2
          by_cases a6 : x3 = -1
          · rw [if_pos a6, e2']
            exact rdrawn_loop (p := 0) hM hR e1 hlv hld (Or.inl a6) (H ⟨⟨a1, a2⟩, ⟨a3, a4⟩, a5, Or.inl a6⟩ lv ld 0 e1 e2 hlv hld (Or.inl a6))
          · rw [if_neg a6, e2']
            refine m_isOne (n := n) (by omega) hM.1.1.1 hn8 (fun p hp he => ?_) (fun q => ?_)
            · rw [if_neg (by decide)]
              exact rdrawn_loop (p := p) hM hR e1 hlv hld (Or.inr ⟨he, hp⟩) (H ⟨⟨a1, a2⟩, ⟨a3, a4⟩, a5, Or.inr ⟨by rw [he]; exact xs_nn (by omega), by rw [he]; exact (n_lt (by omega) (by omega)).mpr hp⟩⟩ lv ld p e1 e2 hlv hld (Or.inr ⟨he, hp⟩))
            · rw [if_pos rfl]
              refine xm_pi_i (H2 (fun ok => ?_))
              rcases ok.2.2.2 with b | ⟨b1, b2⟩
              · exact a6 b
              · exact q.elim b1 (fun z => z b2)
      · rw [if_pos rfl]; exact xm_pi_i (H2 (fun ok => q.elim ok.2.1.1 ok.2.1.2))
    · rw [if_pos rfl]; exact xm_pi_i (H2 (fun ok => q.elim ok.1.1 ok.1.2))
end DRM
