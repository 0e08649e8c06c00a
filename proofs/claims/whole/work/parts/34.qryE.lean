section QRE
variable {A : Nat → Nat → Int32} {L : Nat → Nat → Int64} {F : Nat → Nat → Int32} {g : Int32 → xm_H → Prop} {gv : xm_H → Prop} {w n p k j y e m K : Nat} {x v z : Int32} {h : xm_H} {tc : (Nat → Int32) → Int32} {c : Nat → Int32}
/-- p's purse m years later -/
def prsS (tc : (Nat → Int32) → Int32) (c : Nat → Int32) (n y p m : Nat) : Int32 := yCs tc c n y m (8 + p)
theorem q_broke (hK : 7 < K) (hN : NowOk A F tc n y) (H : ∀ p, p < n → x = Int32.ofNat p → ∀ A' F', Sc A F A' F' → (∀ k, k ≤ 60 → (∀ j, j < k → ¬ prsS tc (A 2) n y p j = 0) → prsS tc (A 2) n y p k = 0 → g (Int32.ofNat k) (HP A' L F')) ∧ ((∀ k, k ≤ 60 → ¬ prsS tc (A 2) n y p k = 0) → g (-2) (HP A' L F'))) (H2 : (x < 0 ∨ ¬ x < Int32.ofNat n) → g (-1) (HP A L F)) : xm_Call K sX8_broke 8 [.ref 0, .int x] (HP A L F) (xm_pi g) := by
  have hn8 := hN.1.2.2.1
  refine eX8_broke (K := 7) hK ⟨_, rfl⟩ ⟨_, rfl, c_has (n := n) (by omega) hN.1.1 hN.1.2.1 hn8 (fun p hp he => ?_) (fun q => ?_)⟩
  · rw [if_neg (by decide)]
    refine ⟨_, rfl, _, rfl, c_copyT (by omega) hN.2.2.1 hN.2.2.2 ?_⟩
    subst he
    refine xm_for (n := 61) (Q := fun k h => xm_L 7 sX8_broke kX8_broke 14 [some (.ref 0), some (.int (Int32.ofNat p)), some (.int (Int32.ofNat k))] [] h (xm_pi g)) (fun k h => ThI A F L (yCs tc (A 2) n y k) n (yY y k) h ∧ ∀ j, j < k → ¬ prsS tc (A 2) n y p j = 0) ?_ ?_ 0 _ (Nat.zero_le _) ⟨ThI.start hN, fun j hj => absurd hj (by omega)⟩
    · rintro k h hk ⟨hI, h1⟩ ih
      have hI0 := hI
      obtain ⟨A1, F1, rfl, s1, e4, w1⟩ := hI0
      refine xX8_broke_14 ?_
      rw [if_neg (show ¬ (60 : Int32) < Int32.ofNat k from fun q => absurd ((n_lt (p := 60) (by omega) (by omega)).mp q) (by omega))]
      refine ⟨_, rfl, c_get (k := 1) (by omega) w1.1 w1.2.1 w1.2.2.1 hp (by omega) ?_⟩
      have e5 : A1 (3 + 1) (8 * 1 + p) = prsS tc (A 2) n y p k := by show A1 4 (8 + p) = _; rw [e4]; rfl
      rw [e5]
      by_cases h0 : prsS tc (A 2) n y p k = 0
      · rw [if_pos h0]
        exact xm_pi_i ((H p hp rfl A1 F1 s1).1 k (by omega) h1 h0)
      · rw [if_neg h0]
        refine ⟨_, rfl, _, rfl, c_yearT (by omega) hN hI (fun A2 F2 t1 t2 t3 => ?_)⟩
        rw [n_succ]
        refine ih _ ⟨t1, fun j hj => ?_⟩
        by_cases hjk : j = k
        · subst hjk; exact h0
        · exact h1 j (by omega)
    · rintro h ⟨⟨A1, F1, rfl, s1, e4, w1⟩, h1⟩
      refine xX8_broke_14 ?_
      rw [if_pos (by decide)]
      exact xm_pi_i ((H p hp rfl A1 F1 s1).2 (fun k hk => h1 k (by omega)))
  · rw [if_pos rfl]; exact xm_pi_i (H2 q)
theorem c_purseBy (hK : 7 < K) (hN : NowOk A F tc n y) (hp : p < n) (hm : m ≤ 40) (H : ∀ A' F', Sc A F A' F' → g (prsS tc (upd (A 2) (24 + p) x) n y p m) (HP A' L F')) : xm_Call K sX8_purseBy 8 [.ref 0, .int (Int32.ofNat p), .int x, .int (Int32.ofNat m)] (HP A L F) (xm_pi g) := by
  have hn8 := hN.1.2.2.1
  have w0 := wok_th (c := A 2) hN rfl (fun _ _ => rfl)
  refine eX8_purseBy (K := 7) hK ⟨_, rfl⟩ ⟨_, rfl, _, rfl, c_copyT (by omega) hN.2.2.1 hN.2.2.2 ⟨_, rfl, c_set (k := 3) (by omega) w0.1 w0.2.1 hn8 hp (by omega) ?_⟩⟩
  refine xm_for (n := m) (Q := fun k h => xm_L 7 sX8_purseBy kX8_purseBy 13 [some (.ref 0), some (.int (Int32.ofNat p)), none, some (.int (Int32.ofNat m)), some (.int (Int32.ofNat k))] [] h (xm_pi g)) (fun k h => ThI A F L (yCs tc (upd (A 2) (24 + p) x) n y k) n (yY y k) h) ?_ ?_ 0 _ (Nat.zero_le _) (ThI.set hN hp)
  · rintro k h hk hI ih
    have hI0 := hI
    obtain ⟨A1, F1, rfl, -⟩ := hI0
    refine xX8_purseBy_13 ?_
    rw [if_pos ((n_lt (by omega) (by omega)).mpr hk)]
    refine ⟨_, rfl, _, rfl, c_yearT (by omega) hN hI (fun A2 F2 t1 t2 t3 => ?_)⟩
    rw [n_succ]; exact ih _ t1
  · rintro h ⟨A1, F1, rfl, s1, e4, w1⟩
    refine xX8_purseBy_13 ?_
    rw [if_neg (fun q => absurd ((n_lt (by omega) (by omega)).mp q) (by omega))]
    refine ⟨_, rfl, c_get (k := 1) (by omega) w1.1 w1.2.1 w1.2.2.1 hp (by omega) (xm_pi_i ?_)⟩
    show g (A1 4 (8 + p)) _
    rw [e4]; exact H A1 F1 s1
def thrW (tc : (Nat → Int32) → Int32) (c : Nat → Int32) (n y p m : Nat) (q : Nat) : Int32 := prsS tc (upd c (24 + p) (Int32.ofNat q)) n y p m
def okT (n : Nat) (x1 x2 x3 : Int32) : Prop := (¬ x1 < 0 ∧ x1 < Int32.ofNat n) ∧ ¬ x2 < 0 ∧ ¬ 40 < x2 ∧ (x3 = 0 ∨ x3 = 1)
theorem n_of40 {x : Int32} (h0 : ¬ x < 0) (h1 : ¬ (40 : Int32) < x) : ∃ m, m ≤ 40 ∧ x = Int32.ofNat m := by
  obtain ⟨m, h2, h3⟩ := n_of (n := 41) (by omega) h0 (by
    rw [Int32.lt_iff_toInt_lt] at h1 ⊢
    have : (40 : Int32).toInt = 40 := rfl
    have : (Int32.ofNat 41).toInt = 41 := rfl
    omega)
  exact ⟨m, by omega, h3⟩
theorem q_thrift (hK : 8 < K) (hN : NowOk A F tc n y) {x1 x2 x3 : Int32} (H : okT n x1 x2 x3 → ∀ p m, p < n → m ≤ 40 → x1 = Int32.ofNat p → x2 = Int32.ofNat m → ∀ A' F', Sc A F A' F' → g (if x3 = 0 then Int32.ofNat (bst (thrW tc (A 2) n y p m) 3) else thrW tc (A 2) n y p m (bst (thrW tc (A 2) n y p m) 3)) (HP A' L F')) (H2 : ¬ okT n x1 x2 x3 → g (-1) (HP A L F)) : xm_Call K sX8_thrift 8 [.ref 0, .int x1, .int x2, .int x3] (HP A L F) (xm_pi g) := by
  have hn8 := hN.1.2.2.1
  have loop : ∀ p m, p < n → m ≤ 40 → okT n x1 x2 x3 → x1 = Int32.ofNat p → x2 = Int32.ofNat m → ∀ A1 F1, Sc A F A1 F1 → xm_L 8 sX8_thrift kX8_thrift 27 [some (.ref 0), some (.int (Int32.ofNat p)), some (.int (Int32.ofNat m)), some (.int x3), some (.int (0 : Int32)), some (.int (thrW tc (A 2) n y p m 0)), some (.int (1 : Int32)), none] [] (HP A1 L F1) (xm_pi g) := by
    intro p m hp hm ok h1 h2 A1 F1 s1
    refine xm_for (n := 3) (Q := fun k h => xm_L 8 sX8_thrift kX8_thrift 27 [some (.ref 0), some (.int (Int32.ofNat p)), some (.int (Int32.ofNat m)), some (.int x3), some (.int (Int32.ofNat (bst (thrW tc (A 2) n y p m) k))), some (.int (thrW tc (A 2) n y p m (bst (thrW tc (A 2) n y p m) k))), some (.int (Int32.ofNat (k + 1))), none] [] h (xm_pi g)) (fun _ h => ∃ A' F', h = HP A' L F' ∧ Sc A F A' F') ?_ ?_ 0 _ (Nat.zero_le _) ⟨A1, F1, rfl, s1⟩
    · rintro k h hk ⟨A', F', rfl, s2⟩ ih
      refine xX8_thrift_27 ?_
      rw [if_pos (show Int32.ofNat (k + 1) < (4 : Int32) from (n_lt (q := 4) (by omega) (by omega)).mpr (by omega))]
      refine c_purseBy (by omega) (s2.now hN) hp hm (fun A2 F2 s3 => ?_)
      have hi := ih _ ⟨A2, F2, rfl, s2.tr s3⟩
      rw [s2.1 2 (by simp), n_succ]
      show (if _ < thrW tc (A 2) n y p m (k + 1) then _ else _)
      have hb : bst (thrW tc (A 2) n y p m) (k + 1) = if thrW tc (A 2) n y p m (bst (thrW tc (A 2) n y p m) k) < thrW tc (A 2) n y p m (k + 1) then k + 1 else bst (thrW tc (A 2) n y p m) k := rfl
      rw [hb] at hi
      split
      · next hc => rw [if_pos hc] at hi; exact hi
      · next hc => rw [if_neg hc] at hi; exact hi
    · rintro h ⟨A', F', rfl, s2⟩
      refine xX8_thrift_27 ?_
      rw [if_neg (by decide)]
      have hh := H ok p m hp hm h1 h2 A' F' s2
      split
      · next h0 => rw [if_pos h0] at hh; exact xm_pi_i hh
      · next h0 => rw [if_neg h0] at hh; exact xm_pi_i hh
  refine eX8_thrift (K := 8) hK ⟨_, rfl⟩ ⟨_, rfl, c_has (n := n) (by omega) hN.1.1 hN.1.2.1 hn8 (fun p hp he => ?_) (fun q => ?_)⟩
  · rw [if_neg (by decide)]
    have hr : ¬ x1 < 0 ∧ x1 < Int32.ofNat n := ⟨by rw [he]; exact xs_nn (by omega), by rw [he]; exact (n_lt (by omega) (by omega)).mpr hp⟩
    by_cases a1 : x2 < 0
    · rw [if_pos a1]; exact xm_pi_i (H2 (fun q => q.2.1 a1))
    · rw [if_neg a1]
      by_cases a2 : (40 : Int32) < x2
      · rw [if_pos a2]; exact xm_pi_i (H2 (fun q => q.2.2.1 a2))
      · rw [if_neg a2]
        obtain ⟨m, hm, hx⟩ := n_of40 a1 a2
        by_cases h0 : x3 = 0
        · rw [if_pos h0, he, hx]
          exact c_purseBy (by omega) hN hp hm (fun A1 F1 s1 => loop p m hp hm ⟨hr, a1, a2, Or.inl h0⟩ he hx A1 F1 s1)
        · rw [if_neg h0]
          by_cases h1 : x3 = 1
          · rw [if_pos h1, he, hx]
            exact c_purseBy (by omega) hN hp hm (fun A1 F1 s1 => loop p m hp hm ⟨hr, a1, a2, Or.inr h1⟩ he hx A1 F1 s1)
          · rw [if_neg h1]; exact xm_pi_i (H2 (fun q => q.2.2.2.elim h0 h1))
  · rw [if_pos rfl]; exact xm_pi_i (H2 (fun ok => q.elim ok.1.1 (fun z => z ok.1.2)))
/-! the least rate by which nobody who said it stays -/
def frS (tc : (Nat → Int32) → Int32) (c : Nat → Int32) (n y : Nat) : Prop := ∀ p, p < n → c (24 + p) = 1 → c (40 + p) = 1 → ¬ gainS c y p 2 < wrt tc c n y p
theorem c_nobody (hK : 4 < K) (hN : NowOk A F tc n y) {y1 : Nat} (s1 : Sc A F A F) (w1 : WOk A F 3 n y1) (hr : RkR tc (A 4) n y1 (earsOf (A 4) n) A F) (H1 : frS tc (A 4) n y1 → g 1 (HP A L F)) (H0 : ¬ frS tc (A 4) n y1 → g 0 (HP A L F)) : xm_Call K sX8_nobodyStaysGladly 8 [.ref 0] (HP A L F) (xm_pi g) := by
  have hn8 := w1.2.2.1
  refine eX8_nobodyStaysGladly (K := 4) hK ⟨_, rfl⟩ ?_
  refine xm_for (n := n) (Q := fun p h => xm_L 4 sX8_nobodyStaysGladly kX8_nobodyStaysGladly 2 [some (.ref 0), some (.int (Int32.ofNat p)), none, none] [] h (xm_pi g)) (fun p h => h = HP A L F ∧ ∀ q, q < p → A 4 (24 + q) = 1 → A 4 (40 + q) = 1 → ¬ gainS (A 4) y1 q 2 < wrt tc (A 4) n y1 q) ?_ ?_ 0 _ (Nat.zero_le _) ⟨rfl, fun q hq => absurd hq (by omega)⟩
  · rintro p h hp ⟨rfl, h1⟩ ih
    refine xX8_nobodyStaysGladly_2 ⟨_, rfl, _, w_people w1.1, ?_⟩
    rw [w1.2.1, if_pos ((n_lt (by omega) (by omega)).mpr hp)]
    refine ⟨_, rfl, c_get (k := 3) (by omega) w1.1 w1.2.1 hn8 hp (by omega) ?_⟩
    have step : (A 4 (24 + p) = 1 → A 4 (40 + p) = 1 → ¬ gainS (A 4) y1 p 2 < wrt tc (A 4) n y1 p) → xm_L 4 sX8_nobodyStaysGladly kX8_nobodyStaysGladly 2 [some (.ref 0), some (.int (Int32.ofNat p + 1)), none, none] [] (HP A L F) (xm_pi g) := by
      intro hc
      rw [n_succ]
      refine ih _ ⟨rfl, fun q hq => ?_⟩
      by_cases hqp : q = p
      · subst hqp; exact hc
      · exact h1 q (by omega)
    by_cases a1 : A (3 + 1) (8 * 3 + p) = 1
    · rw [if_pos a1]
      refine ⟨_, rfl, c_get (k := 5) (by omega) w1.1 w1.2.1 hn8 hp (by omega) ?_⟩
      by_cases a2 : A (3 + 1) (8 * 5 + p) = 1
      · rw [if_pos a2]
        refine ⟨_, rfl, _, rfl, c_gainOf (n := n) (y := y1) (by omega) w1 hp ⟨_, rfl, _, rfl, c_worthOf (n := n) (y := y1) (by omega) w1 hp ?_⟩⟩
        have e5 : gainS (A (3 + 1)) y1 p (A (3 + 1) (24 + p)) - A 12 p = wrt tc (A 4) n y1 p := by rw [hr.2.2.1 p (by omega)]; rfl
        rw [e5]
        show (if gainS (A 4) y1 p 2 < wrt tc (A 4) n y1 p then _ else _)
        by_cases hc : gainS (A 4) y1 p 2 < wrt tc (A 4) n y1 p
        · rw [if_pos hc]; exact xm_pi_i (H0 (fun q => q p hp a1 a2 hc))
        · rw [if_neg hc]; exact step (fun _ _ => hc)
      · rw [if_neg a2]
        exact ⟨_, rfl, _, rfl, c_gainOf (n := n) (y := y1) (by omega) w1 hp (step (fun _ q => absurd q a2))⟩
    · rw [if_neg a1]
      exact ⟨_, rfl, _, rfl, c_gainOf (n := n) (y := y1) (by omega) w1 hp (step (fun q _ => absurd q a1))⟩
  · rintro h ⟨rfl, h1⟩
    refine xX8_nobodyStaysGladly_2 ⟨_, rfl, _, w_people w1.1, ?_⟩
    rw [w1.2.1, if_neg (fun q => absurd ((n_lt (by omega) (by omega)).mp q) (by omega))]
    exact xm_pi_i (H1 h1)
theorem upd_upd (f : Nat → Int32) (k : Nat) (a b : Int32) : upd (upd f k a) k b = upd f k b := by
  funext q
  by_cases h : q = k
  · subst h; rw [p_eq, p_eq]
  · rw [p_ne h, p_ne h, p_ne h]
def frV (tc : (Nat → Int32) → Int32) (c : Nat → Int32) (n y v : Nat) : Prop := frS tc (upd c 65 (Int32.ofNat v)) n y
theorem q_freeRate (hK : 7 < K) (hN : NowOk A F tc n y) (H : ∀ A' F', Sc A F A' F' → (∀ v, 1 ≤ v → v ≤ 99 → (∀ u, 1 ≤ u → u < v → ¬ frV tc (A 2) n y u) → frV tc (A 2) n y v → g (Int32.ofNat v) (HP A' L F')) ∧ ((∀ v, 1 ≤ v → v ≤ 99 → ¬ frV tc (A 2) n y v) → g (-2) (HP A' L F'))) : xm_Call K sX8_freeRate 8 [.ref 0] (HP A L F) (xm_pi g) := by
  have hn8 := hN.1.2.2.1
  refine eX8_freeRate (K := 7) hK ⟨_, rfl⟩ ⟨_, rfl, _, rfl, c_copyT (by omega) hN.2.2.1 hN.2.2.2 ⟨1, rfl, ?_⟩⟩
  have key := xm_for (n := 99) (Q := fun k h => xm_L 7 sX8_freeRate kX8_freeRate 9 [some (.ref 0), some (.int (Int32.ofNat (k + 1)))] [] h (xm_pi g)) (fun k h => (∃ c, (∀ v, upd c 65 v = upd (A 2) 65 v) ∧ ThI A F L c n y h) ∧ ∀ u, 1 ≤ u → u < k + 1 → ¬ frV tc (A 2) n y u) ?_ ?_ 0 _ (Nat.zero_le _) ⟨⟨A 2, fun _ => rfl, ThI.start hN⟩, fun u h1 h2 => absurd h1 (by omega)⟩
  · exact key
  · rintro k h hk ⟨⟨c, hc, A1, F1, rfl, s1, e4, w1⟩, h1⟩ ih
    refine xX8_freeRate_9 ⟨99, rfl, ?_⟩
    rw [if_neg (show ¬ (99 : Int32) < Int32.ofNat (k + 1) from fun q => absurd ((n_lt (p := 99) (by omega) (by omega)).mp q) (by omega))]
    refine ⟨_, rfl, c_set_b (k := 9) (by omega) w1.1 (by omega) (by omega) ⟨_, rfl, _, rfl, ?_⟩⟩
    have hA4 : va_up A1 (3 + 1) (upd (A1 (3 + 1)) (56 + 9) (Int32.ofNat (k + 1))) 4 = upd (A 2) 65 (Int32.ofNat (k + 1)) := by
      show va_up A1 4 _ 4 = _
      rw [u_eq]
      show upd (A1 4) 65 _ = _
      rw [e4, hc]
    generalize hB : va_up A1 (3 + 1) (upd (A1 (3 + 1)) (56 + 9) (Int32.ofNat (k + 1))) = B at hA4
    have hAB : Ag [4] A1 B := by rw [← hB]; exact Ag.up Ag.rf (by simp)
    have hz2 : Zr (B 4) := by rw [hA4]; exact hN.2.2.1.up (by omega)
    have s2 : Sc A1 F1 B F1 := ⟨hAB.mono (fun k hk => by simp at hk ⊢; omega), Ag.rf, hz2⟩
    have wB : WOk B F1 3 n y := by
      refine ⟨w1.1, w1.2.1, hn8, w1.2.2.2.1, ?_, fun q hq => ?_⟩
      · show B 4 64 = _
        rw [hA4, p_ne (by omega)]; exact hN.1.2.2.2.2.1
      · show B 4 (40 + q) = 0 ∨ B 4 (40 + q) = 1
        rw [hA4, p_ne (by omega)]; exact hN.1.2.2.2.2.2 q hq
    have hNB := (s1.tr s2).now hN
    refine c_reckon (tc := tc) (by omega) wB hNB.2.1 (fun A2 F2 a1 a2 a3 a4 => ?_)
    have e24 : A2 4 = B 4 := a1 4 (by simp)
    have s3 : Sc B F1 A2 F2 := ⟨a1.mono (fun k hk => by simp at hk ⊢; omega), a2.mono (fun k hk => by simp at hk ⊢; omega), by rw [e24]; exact hz2⟩
    have w2 : WOk A2 F2 3 n y := wB.to a1 a2 (by simp) (by simp)
    have s5 := (s1.tr s2).tr s3
    have hrk : RkR tc (A2 4) n y (earsOf (A2 4) n) A2 F2 := by rw [e24]; exact a4
    refine c_nobody (by omega) (s5.now hN) (Sc.rf s3.2.2) w2 hrk (fun hf => ?_) (fun hf => ?_)
    · rw [if_neg (by decide)]
      rw [e24, hA4] at hf
      exact xm_pi_i ((H A2 F2 s5).1 (k + 1) (by omega) (by omega) h1 hf)
    · rw [if_pos rfl, n_succ]
      rw [e24, hA4] at hf
      refine ih _ ⟨⟨A2 4, fun v => by rw [e24, hA4, upd_upd], A2, F2, rfl, s5, rfl, w2⟩, fun u hu1 hu2 => ?_⟩
      by_cases huk : u = k + 1
      · subst huk; exact hf
      · exact h1 u hu1 (by omega)
  · rintro h ⟨⟨c, hc, A1, F1, rfl, s1, e4, w1⟩, h1⟩
    refine xX8_freeRate_9 ⟨99, rfl, ?_⟩
    rw [if_pos (by decide)]
    exact xm_pi_i ((H A1 F1 s1).2 (fun v hv1 hv2 => h1 v hv1 (by omega)))
end QRE
