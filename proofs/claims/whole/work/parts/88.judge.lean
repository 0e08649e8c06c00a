section JDG
variable {A : Nat → Nat → Int32} {L : Nat → Nat → Int64} {F : Nat → Nat → Int32} {gv : xm_H → Prop} {w n p k j y e m r o a d u K nb km i t b s N T : Nat} {x x1 x2 x3 x4 x5 v z B : Int32} {h : xm_H} {tc : (Nat → Int32) → Int32} {c sh : Nat → Int32} {q : Int64} {f : Nat → Int64}
def oneK (f : Nat → Int64) (k : Nat) : Int32 := Int64.toInt32 (f (2 * k))
def shK (f : Nat → Int64) (k : Nat) : Int32 := Int64.toInt32 (f (2 * k + 1))
def isTw (f : Nat → Int64) (i n k : Nat) : Prop := k < 20 ∧ 2 * k + 1 < i ∧ (¬ oneK f k < 0 ∧ oneK f k < Int32.ofNat n) ∧ ¬ shK f k < 0
def TwR (f : Nat → Int64) (i n T : Nat) : Prop := (∀ k, k < T → isTw f i n k) ∧ ¬ isTw f i n T
theorem TwR.un {T' : Nat} (h : TwR f i n T) (h' : TwR f i n T') : T = T' := by
  rcases Nat.lt_trichotomy T T' with q | q | q
  · exact absurd (h'.1 T q) h.2
  · exact q
  · exact absurd (h.1 T' q) h'.2
theorem TwR.le (h : TwR f i n T) : T ≤ 20 := by
  by_cases h0 : T = 0
  · omega
  · have := (h.1 (T - 1) (by omega)).1
    omega
def sK (f : Nat → Int64) (k : Nat) : Nat := (oneK f k).toNatClampNeg
def eqK (sh : Nat → Int32) (f : Nat → Int64) (k : Nat) : Prop := sh (sK f k) = shK f k
def allSo (sh : Nat → Int32) (f : Nat → Int64) (T : Nat) : Prop := ∀ k, k < T → eqK sh f k
theorem isTw.who (h : isTw f i n k) (hn : n ≤ 8) : oneK f k = Int32.ofNat (sK f k) ∧ sK f k < n := by
  obtain ⟨-, -, ⟨h1, h2⟩, -⟩ := h
  obtain ⟨q, hq, he⟩ := n_of (by omega) h1 h2
  have : sK f k = q := by unfold sK; rw [he]; exact xs_tn (by omega)
  rw [this]; exact ⟨he, hq⟩
def BL (A F : Nat → Nat → Int32) (f : Nat → Int64) (T : Nat) : Prop := F 25 2 = Int32.ofNat T ∧ ∀ k, k < T → A 26 k = oneK f k ∧ A 27 k = shK f k
theorem BL.to {A' F' : Nat → Nat → Int32} (h : BL A F f T) (h1 : A' 26 = A 26) (h2 : A' 27 = A 27) (h3 : F' 25 = F 25) : BL A' F' f T := ⟨by rw [h3]; exact h.1, by rw [h1, h2]; exact h.2⟩
theorem n_2 (p : Nat) : (2 : Int32) * Int32.ofNat p = Int32.ofNat (2 * p) := n_mul 2 p
theorem c_readTwos (hK : 1 < K) (hs : s < 6) (hi : i ≤ 60) (h2 : F (32 + 2 * s) 2 = Int32.ofNat i) (hn8 : n ≤ 8) (H : ∀ T, TwR (L (33 + 2 * s)) i n T → ∀ A' F', Ag [26, 27] A A' → Ag [25] F F' → BL A' F' (L (33 + 2 * s)) T → gv (HP A' L F')) : xm_Call K sX0_readTwos 0 [.ref 25, .ref (32 + 2 * s), .int (Int32.ofNat n)] (HP A L F) (xm_pv gv) := by
  refine eX0_readTwos (K := 1) hK ⟨_, rfl⟩ ⟨_, p_25_2, ?_⟩
  refine xm_for (n := 20) (Q := fun p h => xm_L 1 sX0_readTwos kX0_readTwos 5 [some (.ref 25), some (.ref (32 + 2 * s)), some (.int (Int32.ofNat n)), some (.int (Int32.ofNat p)), none, none] [] h (xm_pv gv)) (fun p h => (∀ k, k < p → isTw (L (33 + 2 * s)) i n k) ∧ ∃ A' F', h = HP A' L F' ∧ Ag [26, 27] A A' ∧ Ag [25] F F' ∧ BL A' F' (L (33 + 2 * s)) p) ?_ ?_ 0 _ (Nat.zero_le _) ⟨fun k hk => absurd hk (by omega), A, _, rfl, Ag.rf, Ag.up Ag.rf (by simp), rfl, fun k hk => absurd hk (by omega)⟩
  · rintro p h hp ⟨ho, A1, F1, rfl, a1, f1, bl⟩ ih
    have bad : ¬ isTw (L (33 + 2 * s)) i n p → xm_pv gv none (HP A1 L F1) := fun q => xm_pv_i (H p ⟨ho, q⟩ A1 F1 a1 f1 bl)
    have g2 : F1 (32 + 2 * s) 2 = Int32.ofNat i := by rw [f1 _ (by simp; omega)]; exact h2
    refine xX0_readTwos_5 ?_
    rw [if_pos (show Int32.ofNat p < (20 : Int32) from (n_lt (q := 20) (by omega) (by omega)).mpr hp)]
    refine ⟨_, sh_f2 hs, ?_⟩
    rw [g2, n_2, n_succ (2 * p)]
    by_cases l1 : 2 * p + 1 < i
    · rw [if_pos ((n_lt (by omega) (by omega)).mpr l1)]
      refine c_sget (i := i) (by omega) hs hi (by omega) g2 (c_sget (i := i) (by omega) hs hi l1 g2 ?_)
      by_cases k1 : Int64.toInt32 (L (33 + 2 * s) (2 * p)) < 0
      · rw [if_pos k1]; exact bad (fun q => q.2.2.1.1 k1)
      rw [if_neg k1]
      by_cases k2 : Int64.toInt32 (L (33 + 2 * s) (2 * p)) < Int32.ofNat n
      · rw [if_pos k2]
        by_cases k3 : Int64.toInt32 (L (33 + 2 * s) (2 * p + 1)) < 0
        · rw [if_pos k3]; exact bad (fun q => q.2.2.2 k3)
        rw [if_neg k3, n_succ p]
        refine ⟨_, rfl, _, sn_26 hp, _, rfl, _, sn_27 hp, _, p_25_2, ih _ ⟨fun k hk => ?_, _, _, rfl, Ag.up (Ag.up a1 (by simp)) (by simp), Ag.up f1 (by simp), by rw [u_eq, u_eq], fun k hk => ?_⟩⟩
        · by_cases e : k = p
          · subst e; exact ⟨hp, l1, ⟨k1, k2⟩, k3⟩
          · exact ho k (by omega)
        · show upd (A1 26) p (Int64.toInt32 (L (33 + 2 * s) (2 * p))) k = _ ∧ upd (A1 27) p (Int64.toInt32 (L (33 + 2 * s) (2 * p + 1))) k = _
          by_cases e : k = p
          · subst e; rw [p_eq, p_eq]; exact ⟨rfl, rfl⟩
          · rw [p_ne e, p_ne e]; exact bl.2 k (by omega)
      · rw [if_neg k2]; exact bad (fun q => k2 q.2.2.1.2)
    · rw [if_neg (n_ge (by omega) (by omega) (by omega))]; exact bad (fun q => l1 q.2.1)
  · rintro h ⟨ho, A1, F1, rfl, a1, f1, bl⟩
    refine xX0_readTwos_5 ?_
    rw [if_neg (by decide)]
    exact xm_pv_i (H 20 ⟨ho, fun q => absurd q.1 (by omega)⟩ A1 F1 a1 f1 bl)
theorem c_firstWrong {g : Int32 → xm_H → Prop} (hK : 0 < K) (hT : TwR f i n T) (hn8 : n ≤ 8) (bl : BL A F f T) (hsh : ∀ q, q < 8 → A 12 q = sh q) (H : ∀ k, k < T → (∀ j, j < k → eqK sh f j) → ¬ eqK sh f k → g (Int32.ofNat k) (HP A L F)) (H2 : allSo sh f T → g (-1) (HP A L F)) : xm_Call K sX0_firstWrong 0 [.ref 25, .ref 12] (HP A L F) (xm_pi g) := by
  have hT20 := hT.le
  refine eX0_firstWrong (K := 0) hK ⟨_, rfl⟩ ?_
  refine xm_for (n := T) (Q := fun p h => xm_L 0 sX0_firstWrong kX0_firstWrong 2 [some (.ref 25), some (.ref 12), some (.int (Int32.ofNat p)), none] [] h (xm_pi g)) (fun p h => h = HP A L F ∧ ∀ j, j < p → eqK sh f j) ?_ ?_ 0 _ (Nat.zero_le _) ⟨rfl, fun j hj => absurd hj (by omega)⟩
  · rintro p h hp ⟨rfl, ho⟩ ih
    obtain ⟨e1, hl⟩ := (hT.1 p hp).who hn8
    refine xX0_firstWrong_2 ⟨_, rfl, ?_⟩
    rw [bl.1, if_pos ((n_lt (by omega) (by omega)).mpr hp)]
    refine ⟨_, rfl, _, ln_26 (by omega), ?_⟩
    rw [(bl.2 p hp).1, e1, if_neg (xs_nn (by omega))]
    refine ⟨8, rfl, ?_⟩
    rw [if_pos (show Int32.ofNat (sK f p) < (8 : Int32) from (n_lt (q := 8) (by omega) (by omega)).mpr (by omega))]
    refine ⟨_, ln_12 (by omega), _, rfl, _, ln_27 (by omega), ?_⟩
    rw [(bl.2 p hp).2, hsh _ (by omega), n_succ]
    by_cases hq : sh (sK f p) = shK f p
    · rw [if_pos hq]
      refine ih _ ⟨rfl, fun j hj => ?_⟩
      by_cases ej : j = p
      · subst ej; exact hq
      · exact ho j (by omega)
    · rw [if_neg hq]; exact xm_pi_i (H p hp ho hq)
  · rintro h ⟨rfl, ho⟩
    refine xX0_firstWrong_2 ⟨_, rfl, ?_⟩
    rw [bl.1, if_neg (n_ge (by omega) (by omega) (Nat.le_refl _))]
    exact xm_pi_i (H2 ho)
theorem c_isAllSo {g : Int32 → xm_H → Prop} (hK : 1 < K) (hT : TwR f i n T) (hn8 : n ≤ 8) (bl : BL A F f T) (hsh : ∀ q, q < 8 → A 12 q = sh q) (H : allSo sh f T → g 1 (HP A L F)) (H2 : ¬ allSo sh f T → g 0 (HP A L F)) : xm_Call K sX8_isAllSo 8 [.ref 0] (HP A L F) (xm_pi g) := by
  have hT20 := hT.le
  refine eX8_isAllSo (K := 1) hK ⟨_, rfl⟩ ⟨_, rfl, _, rfl, _, rfl, c_firstWrong (sh := sh) (by omega) hT hn8 bl hsh (fun k hk _ hne => ?_) (fun ha => ?_)⟩
  · rw [if_neg (xs_nn (by omega))]; exact xm_pi_i (H2 (fun q => hne (q k hk)))
  · rw [if_pos (by decide)]; exact xm_pi_i (H ha)
/-! the reference -/
theorem m_at {g : Int32 → xm_H → Prop} (hK : 0 < K) (hs : s < 6) (hk : k < 60) (hL : ∀ k, k < 60 → f k = L 79 (60 * s + k)) (H : g (Int64.toInt32 (f k)) (HP A L F)) : xm_Call K sX9_at 9 [.ref 44, .int (Int32.ofNat s), .int (Int32.ofNat k)] (HP A L F) (xm_pi g) := by
  refine eX9_at (K := 0) hK ⟨_, rfl⟩ ⟨_, rfl, ?_⟩
  rw [n_60]
  refine ⟨_, ln_79 (by omega), xm_pi_i ?_⟩
  rw [← hL k hk]; exact H
theorem m_isTwo {g : Int32 → xm_H → Prop} (hK : 2 < K) (hs : s < 6) (hi : i ≤ 60) (h8 : A 78 s = Int32.ofNat i) (hL : ∀ k, k < 60 → f k = L 79 (60 * s + k)) (c2 : F 44 1 = Int32.ofNat n) (hn8 : n ≤ 8) (hp : p ≤ 20) (H : isTw f i n p → g 1 (HP A L F)) (H2 : ¬ isTw f i n p → g 0 (HP A L F)) : xm_Call K sX9_isTwo 9 [.ref 44, .int (Int32.ofNat s), .int (Int32.ofNat p)] (HP A L F) (xm_pi g) := by
  refine eX9_isTwo (K := 2) hK ⟨_, rfl⟩ ?_
  by_cases h20 : p < 20
  · rw [if_pos (show Int32.ofNat p < (20 : Int32) from (n_lt (q := 20) (by omega) (by omega)).mpr h20)]
    refine ⟨_, rfl, _, ln_78 hs, ?_⟩
    rw [h8, n_2, n_succ (2 * p)]
    by_cases l1 : 2 * p + 1 < i
    · rw [if_pos ((n_lt (by omega) (by omega)).mpr l1)]
      refine m_at (f := f) (by omega) hs (by omega) hL (m_isOne (n := n) (by omega) c2 hn8 (fun r hr er => ?_) (fun hb => ?_))
      · rw [if_neg (by decide)]
        refine m_at (f := f) (by omega) hs (by omega) hL ?_
        have k1 : ¬ oneK f p < 0 := by unfold oneK; rw [er]; exact xs_nn (by omega)
        have k2 : oneK f p < Int32.ofNat n := by unfold oneK; rw [er]; exact (n_lt (by omega) (by omega)).mpr hr
        by_cases k3 : Int64.toInt32 (f (2 * p + 1)) < 0
        · rw [if_pos k3]; exact xm_pi_i (H2 (fun q => q.2.2.2 k3))
        · rw [if_neg k3]; exact xm_pi_i (H ⟨h20, l1, ⟨k1, k2⟩, k3⟩)
      · rw [if_pos rfl]; exact xm_pi_i (H2 (fun q => hb.elim q.2.2.1.1 (fun z => z q.2.2.1.2)))
    · rw [if_neg (n_ge (by omega) (by omega) (by omega))]; exact xm_pi_i (H2 (fun q => l1 q.2.1))
  · rw [if_neg (show ¬ Int32.ofNat p < (20 : Int32) from n_ge (q := 20) (by omega) (by omega) (by omega))]
    exact xm_pi_i (H2 (fun q => h20 q.1))
theorem m_wrongTwo {g : Int32 → xm_H → Prop} (hK : 5 < K) (hw : Mw A F n y c) (ht : TXm A F tc) (hs : s < 6) (hi : i ≤ 60) (h8 : A 78 s = Int32.ofNat i) (hL : ∀ k, k < 60 → f k = L 79 (60 * s + k)) (hT : TwR f i n T) (H : ∀ A' F', Ms A F A' F' → (∀ k, k < T → (∀ j, j < k → eqK (sSh tc c n y (earsOf c n)) f j) → ¬ eqK (sSh tc c n y (earsOf c n)) f k → g (Int32.ofNat k) (HP A' L F')) ∧ (allSo (sSh tc c n y (earsOf c n)) f T → g (-2) (HP A' L F'))) : xm_Call K sX9_wrongTwo 9 [.ref 44, .int (Int32.ofNat s)] (HP A L F) (xm_pi g) := by
  have hT20 := hT.le
  have hn8 := hw.1.2.1
  refine eX9_wrongTwo (K := 5) hK ⟨_, rfl⟩ (m_assess (tc := tc) (n := n) (y := y) (c := c) (by omega) hw ht (fun A1 F1 s1 r1 => ?_))
  have w1 := s1.mw hw
  have e8 : A1 78 s = Int32.ofNat i := by rw [s1.1 78 (by simp)]; exact h8
  obtain ⟨H1, H2⟩ := H A1 F1 s1
  refine xm_for (n := T) (Q := fun p h => xm_L 5 sX9_wrongTwo kX9_wrongTwo 4 [some (.ref 44), some (.int (Int32.ofNat s)), some (.int (Int32.ofNat p))] [] h (xm_pi g)) (fun p h => h = HP A1 L F1 ∧ ∀ j, j < p → eqK (sSh tc c n y (earsOf c n)) f j) ?_ ?_ 0 _ (Nat.zero_le _) ⟨rfl, fun j hj => absurd hj (by omega)⟩
  · rintro p h hp ⟨rfl, ho⟩ ih
    have htw := hT.1 p hp
    obtain ⟨e1, hl⟩ := htw.who hn8
    refine xX9_wrongTwo_4 (m_isTwo (f := f) (i := i) (n := n) (by omega) hs hi e8 hL w1.1.1 hn8 (by omega) (fun _ => ?_) (fun q => absurd htw q))
    rw [if_neg (by decide), n_2, n_succ (2 * p), n_succ p]
    have h20 := htw.1
    refine m_at (f := f) (by omega) hs (by omega) hL ?_
    rw [show Int64.toInt32 (f (2 * p)) = Int32.ofNat (sK f p) from e1]
    refine m_shareOf (tc := tc) (c := c) (y := y) (by omega) w1 r1 hl (m_at (f := f) (by omega) hs (by omega) hL ?_)
    by_cases hq : sSh tc c n y (earsOf c n) (sK f p) = Int64.toInt32 (f (2 * p + 1))
    · rw [if_pos hq]
      refine ih _ ⟨rfl, fun j hj => ?_⟩
      by_cases ej : j = p
      · subst ej; exact hq
      · exact ho j (by omega)
    · rw [if_neg hq]; exact xm_pi_i (H1 p hp ho hq)
  · rintro h ⟨rfl, ho⟩
    refine xX9_wrongTwo_4 (m_isTwo (f := f) (i := i) (n := n) (by omega) hs hi e8 hL w1.1.1 hn8 (by omega) (fun q => absurd q hT.2) (fun _ => ?_))
    rw [if_pos rfl]; exact xm_pi_i (H2 ho)
theorem m_wrong2 {g : Int32 → xm_H → Prop} (hK : 5 < K) (hw : Mw A F n y c) (ht : TXm A F tc) (hs : s < 6) (hi : i ≤ 60) (h8 : A 78 s = Int32.ofNat i) (hL : ∀ k, k < 60 → f k = L 79 (60 * s + k)) (hT : TwR f i n T) (H : ∀ A' F', Ms A F A' F' → ∀ v, (v < 0 ↔ allSo (sSh tc c n y (earsOf c n)) f T) → g v (HP A' L F')) : xm_Call K sX9_wrongTwo 9 [.ref 44, .int (Int32.ofNat s)] (HP A L F) (xm_pi g) := by
  have hT20 := hT.le
  refine m_wrongTwo (tc := tc) hK hw ht hs hi h8 hL hT (fun A' F' s' => ⟨fun k hk _ hne => H A' F' s' _ ⟨fun q => absurd q (xs_nn (by omega)), fun q => absurd (q k hk) hne⟩, fun ha => H A' F' s' _ ⟨fun _ => ha, fun _ => by decide⟩⟩)
/-- the class asks a shelf for twos -/
theorem q_rb {g : Int32 → xm_H → Prop} (hK : 2 < K) (hI : INV A L F n nb tc) (Hn : (x < 0 ∨ ¬ x < 6) → g (-1) (HP A L F)) (Ha : ∀ s, s < 6 → x = Int32.ofNat s → A 77 s = -1 → g (-11) (HP A L F)) (Hb : ∀ s, s < 6 → x = Int32.ofNat s → A 77 s ≠ -1 → A 77 s ≠ -3 → g (-12) (HP A L F)) (Hc : ∀ s i, s < 6 → x = Int32.ofNat s → A 77 s = -3 → A 78 s = Int32.ofNat i → i ≤ 60 → (∀ k, k < 60 → L (33 + 2 * s) k = L 79 (60 * s + k)) → ∀ T, TwR (L (33 + 2 * s)) i n T → ∀ A' F', Ag [26, 27] A A' → Ag [25] F F' → BL A' F' (L (33 + 2 * s)) T → g 0 (HP A' L F')) : xm_Call K sX8_readBilled 8 [.ref 0, .int x] (HP A L F) (xm_pi g) := by
  have hI0 := hI
  obtain ⟨⟨hB, -⟩, -, -, ⟨⟨n0, -⟩, -⟩, -⟩ := hI0
  obtain ⟨c1, c2, c3⟩ := hB.1
  refine eX8_readBilled (K := 2) hK ⟨_, rfl⟩ (c_shelfAt (by omega) (fun s hs he => ?_) (fun hb => xm_pi_i (Hn hb)))
  refine ⟨_, sh_f0 hs, ?_⟩
  rcases hI.one hs with ⟨h0, h7⟩ | ⟨h0, b, hb, -, h7⟩ | ⟨t, i, ht, hi, h0, h7, h2, h8, hL⟩
  · rw [if_pos h0]; exact xm_pi_i (Ha s hs he h7)
  · rw [h0, if_neg (by decide)]
    refine ⟨_, sh_f0 hs, ?_⟩
    rw [h0, if_neg (by decide)]
    have hb1 := b50 b (by omega)
    exact xm_pi_i (Hb s hs he (by rw [h7]; exact hb1.1) (fun q => hb1.2 (by rw [← h7, q]; decide)))
  · have ht1 := m2_t t ht
    rw [h0, if_neg ht1.2.2.2.1]
    refine ⟨_, sh_f0 hs, ?_⟩
    rw [h0]
    by_cases t1 : t = 1
    · subst t1
      rw [if_pos (by decide)]
      refine ⟨_, rfl, _, rfl, _, rfl, ?_⟩
      rw [c1]
      exact c_readTwos (i := i) (n := n) (by omega) hs hi h2 c3 (fun T hT A1 F1 a1 f1 bl => (xm_pi_i (Hc s i hs he (by rw [h7]; decide) h8 hi hL T hT A1 F1 a1 f1 bl)))
    · rw [if_neg (show ¬ Int32.ofNat t = (1 : Int32) from fun q => t1 ((n_eq (q := 1) (by omega) (by omega)).mp q))]
      refine xm_pi_i (Hb s hs he (by rw [h7]; exact ht1.1) (fun q => t1 ((m2_inj t 1 ht (by omega)).mp (h7.symm.trans (q.trans (by decide))))))
theorem m_rowFault {g : Int32 → xm_H → Prop} (hK : 0 < K) (hs : s < 6) (Ha : A 77 s = -1 → g (-11) (HP A L F)) (Hb : A 77 s ≠ -1 → A 77 s ≠ -3 → g (-12) (HP A L F)) (Hc : A 77 s = -3 → g 0 (HP A L F)) : xm_Call K sX9_rowFault 9 [.ref 44, .int (Int32.ofNat s)] (HP A L F) (xm_pi g) := by
  refine eX9_rowFault (K := 0) hK ⟨_, rfl⟩ ⟨_, rfl, _, ln_77 hs, ?_⟩
  by_cases h1 : A 77 s = -1
  · rw [if_pos h1]; exact xm_pi_i (Ha h1)
  rw [if_neg h1]
  refine ⟨_, rfl, _, ln_77 hs, ?_⟩
  by_cases h3 : A 77 s = -3
  · rw [if_pos h3]; exact xm_pi_i (Hc h3)
  · rw [if_neg h3]; exact xm_pi_i (Hb h1 h3)
theorem Sc.bl {A' F' : Nat → Nat → Int32} (hz : Zr (A 4)) (h1 : Ag [26, 27] A A') (h2 : Ag [25] F F') : Sc A F A' F' := ⟨h1.mono (fun k hk => by simp at hk ⊢; omega), h2.mono (fun k hk => by simp at hk ⊢; omega), by rw [h1 4 (by simp)]; exact hz⟩
theorem st_judge {g : Int32 → Int32 → xm_H → Prop} (hK : 40 ≤ K) (hI : INV A L F n nb tc) (H : Fin2 g) : xm_Call K sX8_judge 8 [.ref 0, .int x] (HP A L F) (xm_pi fun c h => xm_Call K sX9_judge 9 [.ref 44, .int x] h (xm_pi fun c' h' => g c c' h')) := by
  obtain ⟨y, hN, hM, hR⟩ := hI.get
  have hn8 := hM.1.1.2.1
  have fail : ∀ v, g v v (HP A L F) := fun v => H _ _ _ _ _ _ _ hI
  refine eX8_judge (K := 20) (by omega) ⟨_, rfl⟩ (q_rb (n := n) (nb := nb) (tc := tc) (by omega) hI (fun hb => ?_) (fun s hs he h7 => ?_) (fun s hs he h71 h73 => ?_) (fun s i hs he h7 h8 hi hL T hT A1 F1 a1 f1 bl => ?_))
  · rw [if_neg (by decide)]
    refine xm_pi_i (eX9_judge (K := 20) (by omega) ⟨_, rfl⟩ (m_isShelf (by omega) (fun s' hs' he' => (no6 hs' he' hb).elim) (fun _ => ?_)))
    rw [if_pos rfl]; exact xm_pi_i (fail _)
  · rw [if_neg (by decide)]
    refine xm_pi_i (eX9_judge (K := 20) (by omega) ⟨_, rfl⟩ (m_isShelf (by omega) (fun _ _ _ => ?_) (fun hb => (no6 hs he hb).elim)))
    rw [if_neg (by decide), he]
    refine m_rowFault (by omega) hs (fun _ => ?_) (fun q => absurd h7 q) (fun q => absurd (h7.symm.trans q) (by decide))
    rw [if_pos (by decide)]
    exact m_rowFault (by omega) hs (fun _ => xm_pi_i (fail _)) (fun q => absurd h7 q) (fun q => absurd (h7.symm.trans q) (by decide))
  · rw [if_neg (by decide)]
    refine xm_pi_i (eX9_judge (K := 20) (by omega) ⟨_, rfl⟩ (m_isShelf (by omega) (fun _ _ _ => ?_) (fun hb => (no6 hs he hb).elim)))
    rw [if_neg (by decide), he]
    refine m_rowFault (by omega) hs (fun q => absurd q h71) (fun _ _ => ?_) (fun q => absurd q h73)
    rw [if_pos (by decide)]
    exact m_rowFault (by omega) hs (fun q => absurd q h71) (fun _ _ => xm_pi_i (fail _)) (fun q => absurd q h73)
  · rw [if_pos rfl]
    have s1 : Sc A F A1 F1 := Sc.bl hN.2.2.2 a1 f1
    have hN1 := s1.now hN
    refine ⟨_, rfl, _, rfl, c_reckon (tc := tc) (n := n) (y := y) (w := 1) (by omega) hN1.1 hN1.2.1 (fun A2 F2 a2 f2 _ rk => ?_)⟩
    have s2 : Sc A1 F1 A2 F2 := ⟨a2.mono (fun k hk => by simp at hk ⊢; omega), f2.mono (fun k hk => by simp at hk ⊢; omega), by rw [a2 4 (by simp)]; exact s1.2.2⟩
    have e2 : A1 (1 + 1) = A 2 := a1 2 (by simp)
    rw [e2] at rk
    have bl2 : BL A2 F2 (L (33 + 2 * s)) T := bl.to (a2 26 (by simp)) (a2 27 (by simp)) (f2 25 (by simp))
    have s12 := s1.tr s2
    have hI2 := hI.sc s12
    have hT20 := hT.le
    have ref : ∀ {v : Int32}, (∀ A' F', Mq A2 F2 A' F' n → (∀ k, k < T → (∀ j, j < k → eqK (sSh tc (A 2) n y (earsOf (A 2) n)) (L (33 + 2 * s)) j) → ¬ eqK (sSh tc (A 2) n y (earsOf (A 2) n)) (L (33 + 2 * s)) k → g v (Int32.ofNat k) (HP A' L F')) ∧ (allSo (sSh tc (A 2) n y (earsOf (A 2) n)) (L (33 + 2 * s)) T → g v (-2) (HP A' L F'))) → xm_Call K sX9_judge 9 [.ref 44, .int x] (HP A2 L F2) (xm_pi fun c' h' => g v c' h') := by
      intro v Hr
      have hM2 := s12.mod hM
      have e77 : A2 77 s = -3 := by rw [a2 77 (by simp), a1 77 (by simp)]; exact h7
      refine eX9_judge (K := 20) (by omega) ⟨_, rfl⟩ (m_isShelf (by omega) (fun _ _ _ => ?_) (fun hb => (no6 hs he hb).elim))
      rw [if_neg (by decide), he]
      refine m_rowFault (by omega) hs (fun q => absurd (e77.symm.trans q) (by decide)) (fun _ q => absurd e77 q) (fun _ => ?_)
      rw [if_neg (by decide)]
      refine m_layNow (by omega) hM2.1 (fun A3 F3 q3 _ w3 => m_wrongTwo (tc := tc) (by omega) w3 (q3.ok hM2).2 hs hi (by rw [q3.1 78 (by simp), a2 78 (by simp), a1 78 (by simp)]; exact h8) hL hT (fun A4 F4 s4 => ?_))
      obtain ⟨r1, r2⟩ := Hr A4 F4 (q3.tr (s4.mq q3.2.2.2))
      exact ⟨fun k h1 h2 h3 => xm_pi_i (r1 k h1 h2 h3), fun ha => xm_pi_i (r2 ha)⟩
    refine ⟨_, rfl, _, rfl, _, rfl, c_firstWrong (sh := sSh tc (A 2) n y (earsOf (A 2) n)) (by omega) hT hn8 bl2 rk.2.2.1 (fun k hk ho hne => ?_) (fun ha => ?_)⟩
    · rw [if_neg (xs_nn (by omega))]
      refine xm_pi_i (ref (fun A' F' q => ⟨fun k' hk' ho' hne' => ?_, fun ha => absurd (ha k hk) hne⟩))
      have : k = k' := by
        rcases Nat.lt_trichotomy k k' with q | q | q
        · exact absurd (ho' k q) hne
        · exact q
        · exact absurd (ho k' q) hne'
      subst this
      exact H _ _ _ _ _ _ _ (hI2.mq q)
    · rw [if_pos (by decide)]
      exact xm_pi_i (ref (fun A' F' q => ⟨fun k' hk' ho' hne' => absurd (ha k' hk') hne', fun _ => H _ _ _ _ _ _ _ (hI2.mq q)⟩))
end JDG
