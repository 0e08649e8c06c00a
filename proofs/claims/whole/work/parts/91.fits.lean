section FTS
variable {A : Nat → Nat → Int32} {L : Nat → Nat → Int64} {F : Nat → Nat → Int32} {gv : xm_H → Prop} {w n p k j y e m r o a d u K nb km i t b s N T M : Nat} {x x1 x2 x3 x4 x5 v z B : Int32} {h : xm_H} {tc : (Nat → Int32) → Int32} {c sh : Nat → Int32} {q : Int64} {f : Nat → Int64} {P : Nat → Prop}
def fitM (t s p : Nat) (A1 : Nat → Nat → Int32) (L : Nat → Nat → Int64) (F1 : Nat → Nat → Int32) (G : Int32 → xm_H → Prop) : Prop := match t with
  | 0 => xm_Call 10 sX9_habitBits 9 [.ref 44, .int (Int32.ofNat s), .int (Int32.ofNat p)] (HP A1 L F1) (xm_pi G)
  | 1 => xm_Call 10 sX9_kindBits 9 [.ref 44, .int (Int32.ofNat s), .int (Int32.ofNat p)] (HP A1 L F1) (xm_pi G)
  | 2 => xm_Call 10 sX9_snowsOf 9 [.ref 44, .int (Int32.ofNat s), .int 0] (HP A1 L F1) (xm_pi G)
  | 3 => xm_Call 10 sX9_snowsOf 9 [.ref 44, .int (Int32.ofNat s), .int 1] (HP A1 L F1) (xm_pi G)
  | 4 => xm_Call 10 sX9_earsOf 9 [.ref 44, .int (Int32.ofNat s), .int 0] (HP A1 L F1) (xm_pi G)
  | _ => xm_Call 10 sX9_earsOf 9 [.ref 44, .int (Int32.ofNat s), .int 1] (HP A1 L F1) (xm_pi G)
def fitC (t p : Nat) (A1 : Nat → Nat → Int32) (L : Nat → Nat → Int64) (F1 : Nat → Nat → Int32) (G : Int32 → xm_H → Prop) : Prop := match t with
  | 0 => xm_Call 10 sX8_fittingOf 8 [.ref 0, .int (Int32.ofNat p), .int 3] (HP A1 L F1) (xm_pi G)
  | 1 => xm_Call 10 sX8_fittingOf 8 [.ref 0, .int (Int32.ofNat p), .int 4] (HP A1 L F1) (xm_pi G)
  | 2 => xm_Call 10 sX8_fittingSnows 8 [.ref 0, .int 0] (HP A1 L F1) (xm_pi G)
  | 3 => xm_Call 10 sX8_fittingSnows 8 [.ref 0, .int 1] (HP A1 L F1) (xm_pi G)
  | 4 => xm_Call 10 sX8_fittingEars 8 [.ref 0, .int 0] (HP A1 L F1) (xm_pi G)
  | _ => xm_Call 10 sX8_fittingEars 8 [.ref 0, .int 1] (HP A1 L F1) (xm_pi G)
noncomputable def fvS (tc : (Nat → Int32) → Int32) (c : Nat → Int32) (n y : Nat) (f : Nat → Int64) (T t p : Nat) : Int32 := match t with
  | 0 => accB (ofP tc c n y f T (24 + p)) 4
  | 1 => accB (ofP tc c n y f T (32 + p)) 5
  | 2 => resS 0 (ofP tc c n y f T (56 + y % 8)) 100
  | 3 => resS 1 (ofP tc c n y f T (56 + y % 8)) 100
  | 4 => resS 0 (erP tc c n y f T) (2 ^ n)
  | _ => resS 1 (erP tc c n y f T) (2 ^ n)
theorem six6 (ht : t ≤ 5) : t = 0 ∨ t = 1 ∨ t = 2 ∨ t = 3 ∨ t = 4 ∨ t = 5 := by omega
theorem fitC_ok {G : Int32 → xm_H → Prop} (ht : t ≤ 5) (hp : t < 2 → p < n) (hN : NowOk A F tc n y) (bl : BL A F f T) (hT : TwR f i n T) (H : ∀ A' F', Sc A F A' F' → G (fvS tc (A 2) n y f T t p) (HP A' L F')) : fitC t p A L F G := by
  rcases six6 ht with rfl | rfl | rfl | rfl | rfl | rfl
  · exact c_fitOf (o := 3) (M := 4) (tc := tc) (by omega) hN bl hT (hp (by omega)) (Or.inl ⟨rfl, rfl⟩) H
  · exact c_fitOf (o := 4) (M := 5) (tc := tc) (by omega) hN bl hT (hp (by omega)) (Or.inr ⟨rfl, rfl⟩) H
  · exact c_fitSnows (tc := tc) (by omega) hN bl hT H
  · exact c_fitSnows (tc := tc) (by omega) hN bl hT H
  · exact c_fitEars (tc := tc) (by omega) hN bl hT H
  · exact c_fitEars (tc := tc) (by omega) hN bl hT H
theorem fitM_ok {G : Int32 → xm_H → Prop} {A1 F1 : Nat → Nat → Int32} (ht : t ≤ 5) (hp : t < 2 → p < n) (hM : ModOk A F tc n y c) (hr : RwM A L f s i) (hT : TwR f i n T) (q1 : Mq A F A1 F1 n) (w1 : Mw A1 F1 n y c) (H : ∀ A' F', Mq A F A' F' n → G (fvS tc c n y f T t p) (HP A' L F')) : fitM t s p A1 L F1 G := by
  rcases six6 ht with rfl | rfl | rfl | rfl | rfl | rfl
  · exact r_habitBits (tc := tc) (by omega) hM hr hT q1 w1 (hp (by omega)) H
  · exact r_kindBits (tc := tc) (by omega) hM hr hT q1 w1 (hp (by omega)) H
  · exact r_snowsOf (tc := tc) (by omega) hM hr hT q1 w1 H
  · exact r_snowsOf (tc := tc) (by omega) hM hr hT q1 w1 H
  · exact r_earsOf (tc := tc) (by omega) hM hr hT q1 w1 H
  · exact r_earsOf (tc := tc) (by omega) hM hr hT q1 w1 H
theorem r_fits {g : Int32 → xm_H → Prop} (hK : 10 < K) (hM : ModOk A F tc n y c) (ht : t ≤ 5) (hs : s < 6) (hp : t < 2 → p < n) (hp0 : ¬ t < 2 → p = 0) (H1 : A 77 s = -1 → g (-11) (HP A L F)) (H2 : A 77 s ≠ -1 → A 77 s ≠ -3 → g (-12) (HP A L F)) (H3 : A 77 s = -3 → ∀ A1 F1, Mq A F A1 F1 n → Mw A1 F1 n y c → fitM t s p A1 L F1 (fun c h => xm_pi g (some (.int c)) h)) : xm_Call K sX9_fits 9 [.ref 44, .int (Int32.ofNat s), .int (Int32.ofNat p), .int (Int32.ofNat t)] (HP A L F) (xm_pi g) := by
  have hn8 := hM.1.1.2.1
  refine eX9_fits (K := 10) hK ⟨_, rfl⟩ (m_isShelf (by omega) (fun _ _ _ => ?_) (fun hb => (no6 hs rfl hb).elim))
  rw [if_neg (by decide)]
  refine m_in2 (by omega) (fun _ _ => ?_) (fun hb => ?_)
  rotate_left
  · rcases hb with hb | hb
    · exact absurd hb (xs_nn (by omega))
    · exact absurd ((n_lt (p := 5) (by omega) (by omega)).mp hb) (by omega)
  rw [if_neg (by decide)]
  have tail : ∀ {D : xm_H → Prop}, (∀ A1 F1, fitM t s p A1 L F1 (fun c h => xm_pi g (some (.int c)) h) → D (HP A1 L F1)) → xm_Call 10 sX9_rowFault 9 [.ref 44, .int (Int32.ofNat s)] (HP A L F) (xm_pi fun c8 h7 => (if c8 < 0 then xm_Call 10 sX9_rowFault 9 [.ref 44, .int (Int32.ofNat s)] h7 (xm_pi fun c10 h9 => xm_pi g (some (.int c10)) h9) else xm_Call 10 sX9_layNow 9 [.ref 44] h7 (xm_pv fun h11 => D h11))) := by
    intro D hD
    refine m_rowFault (by omega) hs (fun q => ?_) (fun q1 q2 => ?_) (fun q => ?_)
    · rw [if_pos (by decide)]
      exact m_rowFault (by omega) hs (fun _ => xm_pi_i (H1 q)) (fun z => absurd q z) (fun z => absurd (q.symm.trans z) (by decide))
    · rw [if_pos (by decide)]
      exact m_rowFault (by omega) hs (fun z => absurd z q1) (fun _ _ => xm_pi_i (H2 q1 q2)) (fun z => absurd z q2)
    · rw [if_neg (by decide)]
      exact m_layNow (by omega) hM.1 (fun A1 F1 m1 _ w1 => hD A1 F1 (H3 q A1 F1 m1 w1))
  by_cases t2 : t < 2
  · rw [if_pos (show Int32.ofNat t < (2 : Int32) from (n_lt (q := 2) (by omega) (by omega)).mpr t2)]
    refine m_isOne (n := n) (by omega) hM.1.1.1 hn8 (fun _ _ _ => ?_) (fun hb => (bad_no hn8 (hp t2) rfl hb).elim)
    rw [if_neg (by decide)]
    refine tail (fun A1 F1 hf => ?_)
    rw [if_pos (show Int32.ofNat t < (2 : Int32) from (n_lt (q := 2) (by omega) (by omega)).mpr t2)]
    rcases (show t = 0 ∨ t = 1 by omega) with rfl | rfl
    · rw [if_pos (by decide)]; exact hf
    · rw [if_neg (by decide)]; exact hf
  · have e0 := hp0 t2
    subst e0
    rw [if_neg (show ¬ Int32.ofNat t < (2 : Int32) from n_ge (q := 2) (by omega) (by omega) (by omega)), if_pos (by decide)]
    refine tail (fun A1 F1 hf => ?_)
    rw [if_neg (show ¬ Int32.ofNat t < (2 : Int32) from n_ge (q := 2) (by omega) (by omega) (by omega))]
    rcases (show t = 2 ∨ t = 3 ∨ t = 4 ∨ t = 5 by omega) with rfl | rfl | rfl | rfl
    · rw [if_pos (by decide), if_neg (by decide)]; exact hf
    · rw [if_pos (by decide), if_pos (by decide)]; exact hf
    · rw [if_neg (by decide), if_neg (by decide)]; exact hf
    · rw [if_neg (by decide), if_pos (by decide)]; exact hf
def badF (n : Nat) (x2 x3 : Int32) : Prop := (x3 < 0 ∨ 5 < x3) ∨ (x3 < 2 ∧ (x2 < 0 ∨ ¬ x2 < Int32.ofNat n)) ∨ (¬ x3 < 2 ∧ ¬ x2 = 0)
theorem r_fitsB {g : Int32 → xm_H → Prop} (hK : 10 < K) (c2 : F 44 1 = Int32.ofNat n) (hn8 : n ≤ 8) (hb : (x1 < 0 ∨ ¬ x1 < 6) ∨ badF n x2 x3) (H : g (-1) (HP A L F)) : xm_Call K sX9_fits 9 [.ref 44, .int x1, .int x2, .int x3] (HP A L F) (xm_pi g) := by
  refine eX9_fits (K := 10) hK ⟨_, rfl⟩ (m_isShelf (by omega) (fun s hs he => ?_) (fun _ => ?_))
  · rw [if_neg (by decide)]
    have hb2 : badF n x2 x3 := hb.elim (fun q => (no6 hs he q).elim) id
    refine m_in2 (by omega) (fun a1 a2 => ?_) (fun _ => ?_)
    · rw [if_neg (by decide)]
      rcases hb2 with q | ⟨q1, q2⟩ | ⟨q1, q2⟩
      · exact (q.elim a1 a2).elim
      · rw [if_pos q1]
        refine m_isOne (n := n) (by omega) c2 hn8 (fun p hp he => (bad_no hn8 hp he q2).elim) (fun _ => ?_)
        rw [if_pos rfl]; exact xm_pi_i H
      · rw [if_neg q1, if_neg q2]; exact xm_pi_i H
    · rw [if_pos rfl]; exact xm_pi_i H
  · rw [if_pos rfl]; exact xm_pi_i H
theorem q_fits {g : Int32 → xm_H → Prop} (hK : 10 < K) (hI : INV A L F n nb tc) (Hbad : badF n x2 x3 → g (-1) (HP A L F)) (H : ∀ t p, t ≤ 5 → x3 = Int32.ofNat t → x2 = Int32.ofNat p → (t < 2 → p < n) → (¬ t < 2 → p = 0) → ((x1 < 0 ∨ ¬ x1 < 6) → g (-1) (HP A L F)) ∧ (∀ s, s < 6 → x1 = Int32.ofNat s → A 77 s = -1 → g (-11) (HP A L F)) ∧ (∀ s, s < 6 → x1 = Int32.ofNat s → A 77 s ≠ -1 → A 77 s ≠ -3 → g (-12) (HP A L F)) ∧ (∀ s i, s < 6 → x1 = Int32.ofNat s → A 77 s = -3 → A 78 s = Int32.ofNat i → i ≤ 60 → (∀ k, k < 60 → L (33 + 2 * s) k = L 79 (60 * s + k)) → ∀ T, TwR (L (33 + 2 * s)) i n T → ∀ A' F', Ag [26, 27] A A' → Ag [25] F F' → BL A' F' (L (33 + 2 * s)) T → fitC t p A' L F' (fun c h => xm_pi g (some (.int c)) h))) : xm_Call K sX8_fits 8 [.ref 0, .int x1, .int x2, .int x3] (HP A L F) (xm_pi g) := by
  have hB := hI.1.1
  obtain ⟨c1, c2, c3⟩ := hB.1
  refine eX8_fits (K := 10) hK ⟨_, rfl⟩ ?_
  have go : ∀ (D : Int32 → xm_H → Prop), (∀ v h, v ≠ 0 → xm_pi g (some (.int v)) h → D v h) → ∀ t p, t ≤ 5 → x3 = Int32.ofNat t → x2 = Int32.ofNat p → (t < 2 → p < n) → (¬ t < 2 → p = 0) → (∀ A' F', fitC t p A' L F' (fun c h => xm_pi g (some (.int c)) h) → D 0 (HP A' L F')) → xm_Call 10 sX8_readBilled 8 [.ref 0, .int x1] (HP A L F) (xm_pi D) := by
    intro D hD t p ht e3 e2 hp hp0 hf
    obtain ⟨h1, h2, h3, h4⟩ := H t p ht e3 e2 hp hp0
    exact q_rb (n := n) (nb := nb) (tc := tc) (by omega) hI (fun hb => hD _ _ (by decide) (xm_pi_i (h1 hb))) (fun s hs he h7 => hD _ _ (by decide) (xm_pi_i (h2 s hs he h7))) (fun s hs he h71 h73 => hD _ _ (by decide) (xm_pi_i (h3 s hs he h71 h73))) (fun s i hs he h7 h8 hi hL T hT A1 F1 a1 f1 bl => hf A1 F1 (h4 s i hs he h7 h8 hi hL T hT A1 F1 a1 f1 bl))
  by_cases z0 : x3 = 0
  · rw [if_pos z0, if_neg (by rw [z0]; decide), if_neg (by rw [z0]; decide)]
    refine ⟨_, rfl, c_has (n := n) (by omega) (Or.inl rfl) c1 c3 (fun p hp he => ?_) (fun hb => ?_)⟩
    · rw [if_neg (by decide)]
      refine go _ (fun v h hv hg => ?_) 0 p (by omega) z0 he (fun _ => hp) (fun q => absurd (by omega) q) (fun A' F' hf => ?_)
      · rw [if_neg hv]; exact hg
      · rw [if_pos rfl, if_pos z0, he]; exact hf
    · rw [if_pos rfl]; exact xm_pi_i (Hbad (Or.inr (Or.inl ⟨by rw [z0]; decide, hb⟩)))
  rw [if_neg z0]
  by_cases z1 : x3 = 1
  · rw [if_pos z1, if_neg (by rw [z1]; decide), if_neg (by rw [z1]; decide)]
    refine ⟨_, rfl, c_has (n := n) (by omega) (Or.inl rfl) c1 c3 (fun p hp he => ?_) (fun hb => ?_)⟩
    · rw [if_neg (by decide)]
      refine go _ (fun v h hv hg => ?_) 1 p (by omega) z1 he (fun _ => hp) (fun q => absurd (by omega) q) (fun A' F' hf => ?_)
      · rw [if_neg hv]; exact hg
      · rw [if_pos rfl, if_neg z0, if_pos z1, he]; exact hf
    · rw [if_pos rfl]; exact xm_pi_i (Hbad (Or.inr (Or.inl ⟨by rw [z1]; decide, hb⟩)))
  rw [if_neg z1]
  by_cases n0 : x3 < 0
  · rw [if_pos n0]; exact xm_pi_i (Hbad (Or.inl (Or.inl n0)))
  rw [if_neg n0]
  by_cases n5 : 5 < x3
  · rw [if_pos n5]; exact xm_pi_i (Hbad (Or.inl (Or.inr n5)))
  rw [if_neg n5]
  have n2 : ¬ x3 < 2 := fun q => ((i_lt2 n0).mp q).elim z0 z1
  by_cases y0 : x2 = 0
  · rw [if_pos y0]
    obtain ⟨t, ht, e3⟩ := i_le 5 (by omega) n0 n5
    have t2 : ¬ t < 2 := fun q => n2 (by rw [e3]; exact (n_lt (q := 2) (by omega) (by omega)).mpr q)
    refine go _ (fun v h hv hg => ?_) t 0 ht e3 y0 (fun q => absurd q t2) (fun _ => rfl) (fun A' F' hf => ?_)
    · rw [if_neg hv]; exact hg
    · rw [if_pos rfl, if_neg z0, if_neg z1, e3]
      rcases (show t = 2 ∨ t = 3 ∨ t = 4 ∨ t = 5 by omega) with rfl | rfl | rfl | rfl
      · rw [if_pos (by decide)]; exact hf
      · rw [if_neg (by decide), if_pos (by decide)]; exact hf
      · rw [if_neg (by decide), if_neg (by decide), if_pos (by decide)]; exact hf
      · rw [if_neg (by decide), if_neg (by decide), if_neg (by decide)]; exact hf
  · rw [if_neg y0]; exact xm_pi_i (Hbad (Or.inr (Or.inr ⟨n2, y0⟩)))
theorem st_fits {g : Int32 → Int32 → xm_H → Prop} (hK : 40 ≤ K) (hI : INV A L F n nb tc) (H : Fin2 g) : xm_Call K sX8_fits 8 [.ref 0, .int x1, .int x2, .int x3] (HP A L F) (xm_pi fun c h => xm_Call K sX9_fits 9 [.ref 44, .int x1, .int x2, .int x3] h (xm_pi fun c' h' => g c c' h')) := by
  obtain ⟨y, hN, hM, hR⟩ := hI.get
  have hn8 := hM.1.1.2.1
  have fail : ∀ v, g v v (HP A L F) := fun v => H _ _ _ _ _ _ _ hI
  refine q_fits (n := n) (nb := nb) (tc := tc) (by omega) hI (fun hb => r_fitsB (n := n) (by omega) hM.1.1.1 hn8 (Or.inr hb) (fail _)) (fun t p ht e3 e2 hp hp0 => ⟨fun hb => r_fitsB (n := n) (by omega) hM.1.1.1 hn8 (Or.inl hb) (fail _), fun s hs he h7 => ?_, fun s hs he h71 h73 => ?_, fun s i hs he h7 h8 hi hL T hT A1 F1 a1 f1 bl => ?_⟩)
  · rw [he, e2, e3]
    exact r_fits (t := t) (s := s) (p := p) (by omega) hM ht hs hp hp0 (fun _ => fail _) (fun q => absurd h7 q) (fun q => absurd (h7.symm.trans q) (by decide))
  · rw [he, e2, e3]
    exact r_fits (t := t) (s := s) (p := p) (by omega) hM ht hs hp hp0 (fun q => absurd q h71) (fun _ _ => fail _) (fun q => absurd q h73)
  · have s1 : Sc A F A1 F1 := Sc.bl hN.2.2.2 a1 f1
    have hN1 := s1.now hN
    have e2' : A1 2 = A 2 := a1 2 (by simp)
    refine fitC_ok (tc := tc) (n := n) (y := y) (i := i) ht hp hN1 bl hT (fun A2 F2 s2 => xm_pi_i ?_)
    have s12 := s1.tr s2
    have hI2 := hI.sc s12
    have hM2 := s12.mod hM
    have e77 : A2 77 s = -3 := by rw [s2.1 77 (by simp), a1 77 (by simp)]; exact h7
    rw [he, e2, e3, e2']
    refine r_fits (t := t) (s := s) (p := p) (by omega) hM2 ht hs hp hp0 (fun q => absurd (e77.symm.trans q) (by decide)) (fun _ q => absurd e77 q) (fun _ A3 F3 q3 w3 => fitM_ok (tc := tc) (n := n) (y := y) (c := A 2) (i := i) (T := T) (f := L (33 + 2 * s)) ht hp hM2 ⟨hs, hi, by rw [s2.1 78 (by simp), a1 78 (by simp)]; exact h8, hL⟩ hT q3 w3 (fun A4 F4 q4 => xm_pi_i ?_))
    exact H _ _ _ _ _ _ _ (hI2.mq q4)
end FTS
