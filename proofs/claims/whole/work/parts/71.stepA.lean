section STA
variable {A : Nat → Nat → Int32} {L : Nat → Nat → Int64} {F : Nat → Nat → Int32} {g : Int32 → Int32 → xm_H → Prop} {w n p k j y e m r o a K nb : Nat} {x x1 x2 x3 v z : Int32} {h : xm_H} {tc : (Nat → Int32) → Int32} {c : Nat → Int32}
/-- both have answered alike, and all stands -/
def Fin2 (g : Int32 → Int32 → xm_H → Prop) : Prop := ∀ v A L F n nb tc, INV A L F n nb tc → g v v (HP A L F)
theorem Sc.mod {A' F' : Nat → Nat → Int32} (s : Sc A F A' F') (hM : ModOk A F tc n y c) : ModOk A' F' tc n y c := by
  have eA : ∀ k, k ∉ [4, 8, 9, 10, 11, 12, 24, 26, 27] → A' k = A k := s.1
  have eF : ∀ k, k ∉ [3, 5, 25] → F' k = F k := s.2.1
  obtain ⟨⟨⟨a1, a2, a3, a4, a5, a6⟩, a7, a8, a9, a10, a11⟩, t⟩ := hM
  have e44 : F' 44 = F 44 := eF 44 (by simp)
  refine ⟨⟨⟨by rw [e44]; exact a1, a2, a3, by rw [eA 53 (by simp)]; exact a4, by rw [eA 53 (by simp)]; exact a5, by rw [eA 53 (by simp)]; exact a6⟩, fun p hp => ?_, by rw [eA 52 (by simp)]; exact a8, a9, a10, fun p h1 h2 => ?_⟩, t.to s.1 (by simp) (by rw [e44])⟩
  · rw [eA 45 (by simp), eA 46 (by simp), eA 47 (by simp), eA 48 (by simp), eA 49 (by simp), eA 50 (by simp), eA 51 (by simp)]; exact a7 p hp
  · rw [eA 66 (by simp), eA 67 (by simp), eA 68 (by simp), eA 69 (by simp)]; exact a11 p h1 h2
theorem bad_no (hn : n ≤ 8) (hp : p < n) (he : x = Int32.ofNat p) (hb : x < 0 ∨ ¬ x < Int32.ofNat n) : False := by
  rw [he] at hb
  exact hb.elim (xs_nn (by omega)) (fun q => q ((n_lt (by omega) (by omega)).mpr hp))
theorem INV.get (hI : INV A L F n nb tc) : ∃ y, NowOk A F tc n y ∧ ModOk A F tc n y (A 2) ∧ Rng (A 2) := hI.1.1.ok hI.1.2.1 hI.1.2.2
theorem same {q : Nat} (hp : p < 1000) (hq : q < 1000) (h1 : x = Int32.ofNat p) (h2 : x = Int32.ofNat q) : p = q := (n_eq (by omega) (by omega)).mp (h1.symm.trans h2)
theorem st_counts (hK : 40 ≤ K) (hI : INV A L F n nb tc) (H : Fin2 g) : xm_Call K sX8_counts 8 [.ref 0, .int x] (HP A L F) (xm_pi fun c h => xm_Call K sX9_counts 9 [.ref 44, .int x] h (xm_pi fun c' h' => g c c' h')) := by
  obtain ⟨y, hN, hM, hR⟩ := hI.get
  have hn8 := hM.1.1.2.1
  refine q_counts (by omega) hN (fun p hp he A1 F1 s1 => ?_) (fun hb => ?_)
  · refine r_counts (by omega) (s1.mod hM) (fun p' hp' he' A2 F2 q2 => ?_) (fun hb => (bad_no hn8 hp he hb).elim)
    have := same (by omega) (by omega) he he'
    subst this
    exact H _ _ _ _ _ _ _ ((hI.sc s1).mq q2)
  · exact r_counts (by omega) hM (fun p' hp' he' => (bad_no hn8 hp' he' hb).elim) (fun _ => H _ _ _ _ _ _ _ hI)
theorem st_share (hK : 40 ≤ K) (hI : INV A L F n nb tc) (H : Fin2 g) : xm_Call K sX8_share 8 [.ref 0, .int x] (HP A L F) (xm_pi fun c h => xm_Call K sX9_share 9 [.ref 44, .int x] h (xm_pi fun c' h' => g c c' h')) := by
  obtain ⟨y, hN, hM, hR⟩ := hI.get
  have hn8 := hM.1.1.2.1
  refine q_share (by omega) hN (fun p hp he A1 F1 s1 => ?_) (fun hb => ?_)
  · refine r_share (by omega) (s1.mod hM) (fun p' hp' he' A2 F2 q2 => ?_) (fun hb => (bad_no hn8 hp he hb).elim)
    have := same (by omega) (by omega) he he'
    subst this
    exact H _ _ _ _ _ _ _ ((hI.sc s1).mq q2)
  · exact r_share (by omega) hM (fun p' hp' he' => (bad_no hn8 hp' he' hb).elim) (fun _ => H _ _ _ _ _ _ _ hI)
theorem st_worth (hK : 40 ≤ K) (hI : INV A L F n nb tc) (H : Fin2 g) : xm_Call K sX8_worth 8 [.ref 0, .int x] (HP A L F) (xm_pi fun c h => xm_Call K sX9_worth 9 [.ref 44, .int x] h (xm_pi fun c' h' => g c c' h')) := by
  obtain ⟨y, hN, hM, hR⟩ := hI.get
  have hn8 := hM.1.1.2.1
  refine q_worth (by omega) hN (fun p hp he A1 F1 s1 => ?_) (fun hb => ?_)
  · refine r_worth (by omega) (s1.mod hM) (fun p' hp' he' A2 F2 q2 => ?_) (fun hb => (bad_no hn8 hp he hb).elim)
    have := same (by omega) (by omega) he he'
    subst this
    exact H _ _ _ _ _ _ _ ((hI.sc s1).mq q2)
  · exact r_worth (by omega) hM (fun p' hp' he' => (bad_no hn8 hp' he' hb).elim) (fun _ => H _ _ _ _ _ _ _ hI)
theorem st_bill (hK : 40 ≤ K) (hI : INV A L F n nb tc) (H : Fin2 g) : xm_Call K sX8_bill 8 [.ref 0, .int x] (HP A L F) (xm_pi fun c h => xm_Call K sX9_bill 9 [.ref 44, .int x] h (xm_pi fun c' h' => g c c' h')) := by
  obtain ⟨y, hN, hM, hR⟩ := hI.get
  refine q_bill (by omega) hN (fun h0 A1 F1 s1 => ?_) (fun h1 A1 F1 s1 => ?_) (fun h0 h1 => ?_)
  · exact r_bill (by omega) (s1.mod hM) (fun _ A2 F2 q2 => H _ _ _ _ _ _ _ ((hI.sc s1).mq q2)) (fun h1 => absurd (h0.symm.trans h1) (by decide)) (fun q _ => absurd h0 q)
  · exact r_bill (by omega) (s1.mod hM) (fun h0 => absurd (h0.symm.trans h1) (by decide)) (fun _ A2 F2 q2 => H _ _ _ _ _ _ _ ((hI.sc s1).mq q2)) (fun _ q => absurd h1 q)
  · exact r_bill (by omega) hM (fun q => absurd q h0) (fun q => absurd q h1) (fun _ _ => H _ _ _ _ _ _ _ hI)
theorem st_best (hK : 40 ≤ K) (hI : INV A L F n nb tc) (H : Fin2 g) : xm_Call K sX8_best 8 [.ref 0, .int x, .int x2] (HP A L F) (xm_pi fun c h => xm_Call K sX9_best 9 [.ref 44, .int x, .int x2] h (xm_pi fun c' h' => g c c' h')) := by
  obtain ⟨y, hN, hM, hR⟩ := hI.get
  have hn8 := hM.1.1.2.1
  have nob : ∀ p, p < n → x = Int32.ofNat p → (x2 = 0 ∨ x2 = 1) → ((x < 0 ∨ ¬ x < Int32.ofNat n) ∨ (¬ x2 = 0 ∧ ¬ x2 = 1)) → False := fun p hp he hx hb => hb.elim (bad_no hn8 hp he) (fun q => hx.elim q.1 q.2)
  refine q_best (by omega) hN (fun p hp he A1 F1 s1 => ⟨fun h0 => ?_, fun h1 => ?_⟩) (fun hb => ?_)
  · refine r_best (by omega) (s1.mod hM) (fun p' hp' he' A2 F2 q2 => ⟨fun _ => ?_, fun h1 => absurd (h0.symm.trans h1) (by decide)⟩) (fun hb => (nob p hp he (Or.inl h0) hb).elim)
    have := same (by omega) (by omega) he he'
    subst this
    exact H _ _ _ _ _ _ _ ((hI.sc s1).mq q2)
  · refine r_best (by omega) (s1.mod hM) (fun p' hp' he' A2 F2 q2 => ⟨fun h0 => absurd (h0.symm.trans h1) (by decide), fun _ => ?_⟩) (fun hb => (nob p hp he (Or.inr h1) hb).elim)
    have := same (by omega) (by omega) he he'
    subst this
    exact H _ _ _ _ _ _ _ ((hI.sc s1).mq q2)
  · exact r_best (by omega) hM (fun p' hp' he' A2 F2 q2 => ⟨fun h0 => (nob p' hp' he' (Or.inl h0) hb).elim, fun h1 => (nob p' hp' he' (Or.inr h1) hb).elim⟩) (fun _ => H _ _ _ _ _ _ _ hI)
theorem st_atRest (hK : 40 ≤ K) (hI : INV A L F n nb tc) (H : Fin2 g) : xm_Call K sX8_atRest 8 [.ref 0] (HP A L F) (xm_pi fun c h => xm_Call K sX9_atRest 9 [.ref 44] h (xm_pi fun c' h' => g c c' h')) := by
  obtain ⟨y, hN, hM, hR⟩ := hI.get
  refine q_atRest (by omega) hN (fun hr A1 F1 s1 => ?_) (fun hr A1 F1 s1 => ?_)
  · exact r_atRest (by omega) (s1.mod hM) (fun _ A2 F2 q2 => H _ _ _ _ _ _ _ ((hI.sc s1).mq q2)) (fun q => absurd hr q)
  · exact r_atRest (by omega) (s1.mod hM) (fun q => absurd q hr) (fun _ A2 F2 q2 => H _ _ _ _ _ _ _ ((hI.sc s1).mq q2))
theorem st_rest (hK : 40 ≤ K) (hI : INV A L F n nb tc) (H : Fin2 g) : xm_Call K sX8_rest 8 [.ref 0, .int x] (HP A L F) (xm_pi fun c h => xm_Call K sX9_rest 9 [.ref 44, .int x] h (xm_pi fun c' h' => g c c' h')) := by
  obtain ⟨y, hN, hM, hR⟩ := hI.get
  have hn8 := hM.1.1.2.1
  refine q_rest (by omega) hN (fun ok h4 A1 F1 s1 => ⟨fun hx => ?_, fun p hp he => ⟨fun r hr hP hno => ?_, fun hno => ?_⟩⟩) (fun ok h4 => ?_) (fun ok => ?_)
  · exact r_rest (by omega) (s1.mod hM) (fun _ _ A2 F2 q2 => ⟨fun _ => H _ _ _ _ _ _ _ ((hI.sc s1).mq q2), fun p hp he => absurd (he.symm.trans hx) (nn1 (by omega))⟩) (fun _ q => absurd h4 q) (fun q => absurd ok q)
  · refine r_rest (by omega) (s1.mod hM) (fun _ _ A2 F2 q2 => ⟨fun hx => absurd (he.symm.trans hx) (nn1 (by omega)), fun p' hp' he' => ⟨fun r' hr' hP' hno' => ?_, fun hno' => absurd hP (hno' r hr)⟩⟩) (fun _ q => absurd h4 q) (fun q => absurd ok q)
    have := same (by omega) (by omega) he he'
    subst this
    have hrr : r = r' := by
      rcases Nat.lt_trichotomy r r' with q | q | q
      · exact absurd hP (hno' r q)
      · exact q
      · exact absurd hP' (hno r' q)
    subst hrr
    exact H _ _ _ _ _ _ _ ((hI.sc s1).mq q2)
  · exact r_rest (by omega) (s1.mod hM) (fun _ _ A2 F2 q2 => ⟨fun hx => absurd (he.symm.trans hx) (nn1 (by omega)), fun p' hp' he' => ⟨fun r' hr' hP' hno' => absurd hP' (hno r' hr'), fun _ => H _ _ _ _ _ _ _ ((hI.sc s1).mq q2)⟩⟩) (fun _ q => absurd h4 q) (fun q => absurd ok q)
  · exact r_rest (by omega) hM (fun _ q => absurd q h4) (fun _ _ => H _ _ _ _ _ _ _ hI) (fun q => absurd ok q)
  · exact r_rest (by omega) hM (fun q => absurd q ok) (fun q => absurd q ok) (fun _ => H _ _ _ _ _ _ _ hI)
theorem st_freeRate (hK : 40 ≤ K) (hI : INV A L F n nb tc) (H : Fin2 g) : xm_Call K sX8_freeRate 8 [.ref 0] (HP A L F) (xm_pi fun c h => xm_Call K sX9_freeRate 9 [.ref 44] h (xm_pi fun c' h' => g c c' h')) := by
  obtain ⟨y, hN, hM, hR⟩ := hI.get
  refine q_freeRate (by omega) hN (fun A1 F1 s1 => ⟨fun v h1 h9 hno hP => ?_, fun hno => ?_⟩)
  · refine r_freeRate (by omega) (s1.mod hM) (fun A2 F2 q2 => ⟨fun v' h1' h9' hno' hP' => ?_, fun hno' => absurd hP (hno' v h1 h9)⟩)
    have hvv : v = v' := by
      rcases Nat.lt_trichotomy v v' with q | q | q
      · exact absurd hP (hno' v h1 q)
      · exact q
      · exact absurd hP' (hno v' h1' q)
    subst hvv
    exact H _ _ _ _ _ _ _ ((hI.sc s1).mq q2)
  · exact r_freeRate (by omega) (s1.mod hM) (fun A2 F2 q2 => ⟨fun v' h1' h9' hno' hP' => absurd hP' (hno v' h1' h9'), fun _ => H _ _ _ _ _ _ _ ((hI.sc s1).mq q2)⟩)
theorem st_pool (hK : 40 ≤ K) (hI : INV A L F n nb tc) (H : Fin2 g) : xm_Call K sX8_pool 8 [.ref 0, .int x1, .int x2] (HP A L F) (xm_pi fun c h => xm_Call K sX9_pool 9 [.ref 44, .int x1, .int x2] h (xm_pi fun c' h' => g c c' h')) := by
  obtain ⟨y, hN, hM, hR⟩ := hI.get
  have hn8 := hM.1.1.2.1
  refine q_pool (by omega) hN (fun p e hp he a1 a2 hb A1 F1 s1 => ?_) (fun hb => ?_)
  · refine r_pool (by omega) (s1.mod hM) (fun p' e' hp' he' a1' a2' hb' A2 F2 q2 => ?_) (fun q => absurd ⟨p, e, hp, a2, he, a1, hb⟩ q)
    have l1 := lt256 hn8 he
    have l2 := lt256 hn8 he'
    have := same (by omega) (by omega) a2 a2'
    have := same (by omega) (by omega) a1 a1'
    subst_vars
    exact H _ _ _ _ _ _ _ ((hI.sc s1).mq q2)
  · exact r_pool (by omega) hM (fun p e hp he a1 a2 hb2 => absurd ⟨p, e, hp, a2, he, a1, hb2⟩ hb) (fun _ => H _ _ _ _ _ _ _ hI)
theorem st_spared (hK : 40 ≤ K) (hI : INV A L F n nb tc) (H : Fin2 g) : xm_Call K sX8_spared 8 [.ref 0] (HP A L F) (xm_pi fun c h => xm_Call K sX9_spared 9 [.ref 44] h (xm_pi fun c' h' => g c c' h')) := by
  obtain ⟨y, hN, hM, hR⟩ := hI.get
  exact q_spared (by omega) hN (fun A1 F1 s1 => r_spared (by omega) (s1.mod hM) (fun A2 F2 q2 => H _ _ _ _ _ _ _ ((hI.sc s1).mq q2)))
theorem st_later (hK : 40 ≤ K) (hI : INV A L F n nb tc) (H : Fin2 g) : xm_Call K sX8_later 8 [.ref 0, .int x1, .int x2, .int x3] (HP A L F) (xm_pi fun c h => xm_Call K sX9_later 9 [.ref 44, .int x1, .int x2, .int x3] h (xm_pi fun c' h' => g c c' h')) := by
  obtain ⟨y, hN, hM, hR⟩ := hI.get
  refine q_later (by omega) hN (fun ok m p l1 l2 e1 e2 A1 F1 s1 => ?_) (fun hb => ?_)
  · refine r_later (by omega) (s1.mod hM) hR (fun ok' m' p' l1' l2' e1' e2' A2 F2 q2 => ?_) (fun q => absurd ok q)
    have := same (by omega) (by omega) e1 e1'
    have := same (by omega) (by omega) e2 e2'
    subst_vars
    exact H _ _ _ _ _ _ _ ((hI.sc s1).mq q2)
  · exact r_later (by omega) hM hR (fun q => absurd q hb) (fun _ => H _ _ _ _ _ _ _ hI)
theorem st_broke (hK : 40 ≤ K) (hI : INV A L F n nb tc) (H : Fin2 g) : xm_Call K sX8_broke 8 [.ref 0, .int x] (HP A L F) (xm_pi fun c h => xm_Call K sX9_broke 9 [.ref 44, .int x] h (xm_pi fun c' h' => g c c' h')) := by
  obtain ⟨y, hN, hM, hR⟩ := hI.get
  have hn8 := hM.1.1.2.1
  refine q_broke (by omega) hN (fun p hp he A1 F1 s1 => ⟨fun k hk hno hP => ?_, fun hno => ?_⟩) (fun hb => ?_)
  · refine r_broke (by omega) (s1.mod hM) hR (fun p' hp' he' A2 F2 q2 => ?_) (fun hb => (bad_no hn8 hp he hb).elim)
    have := same (by omega) (by omega) he he'
    subst this
    refine ⟨fun k' hk' hno' hP' => ?_, fun hno' => absurd hP (hno' k hk)⟩
    have hkk : k = k' := by
      rcases Nat.lt_trichotomy k k' with q | q | q
      · exact absurd hP (hno' k q)
      · exact q
      · exact absurd hP' (hno k' q)
    subst hkk
    exact H _ _ _ _ _ _ _ ((hI.sc s1).mq q2)
  · refine r_broke (by omega) (s1.mod hM) hR (fun p' hp' he' A2 F2 q2 => ?_) (fun hb => (bad_no hn8 hp he hb).elim)
    have := same (by omega) (by omega) he he'
    subst this
    exact ⟨fun k' hk' _ hP' => absurd hP' (hno k' hk'), fun _ => H _ _ _ _ _ _ _ ((hI.sc s1).mq q2)⟩
  · exact r_broke (by omega) hM hR (fun p' hp' he' => (bad_no hn8 hp' he' hb).elim) (fun _ => H _ _ _ _ _ _ _ hI)
theorem st_thrift (hK : 40 ≤ K) (hI : INV A L F n nb tc) (H : Fin2 g) : xm_Call K sX8_thrift 8 [.ref 0, .int x1, .int x2, .int x3] (HP A L F) (xm_pi fun c h => xm_Call K sX9_thrift 9 [.ref 44, .int x1, .int x2, .int x3] h (xm_pi fun c' h' => g c c' h')) := by
  obtain ⟨y, hN, hM, hR⟩ := hI.get
  have hn8 := hM.1.1.2.1
  refine q_thrift (by omega) hN (fun ok p m l1 l2 e1 e2 A1 F1 s1 => ?_) (fun hb => ?_)
  · refine r_thrift (by omega) (s1.mod hM) hR (fun ok' p' m' l1' l2' e1' e2' A2 F2 q2 => ?_) (fun q => absurd ok q)
    have := same (by omega) (by omega) e1 e1'
    have := same (by omega) (by omega) e2 e2'
    subst_vars
    exact H _ _ _ _ _ _ _ ((hI.sc s1).mq q2)
  · exact r_thrift (by omega) hM hR (fun q => absurd q hb) (fun _ => H _ _ _ _ _ _ _ hI)
theorem st_said (hK : 40 ≤ K) (hI : INV A L F n nb tc) (H : Fin2 g) : xm_Call K sX8_said 8 [.ref 0, .int x] (HP A L F) (xm_pi fun c h => xm_Call K sX9_said 9 [.ref 44, .int x] h (xm_pi fun c' h' => g c c' h')) := by
  obtain ⟨y, hN, hM, hR⟩ := hI.get
  refine q_said (by omega) hN (fun ok A1 F1 s1 => ?_) (fun hb => ?_)
  · exact r_said (by omega) (s1.mod hM) (fun _ A2 F2 q2 => H _ _ _ _ _ _ _ ((hI.sc s1).mq q2)) (fun q => absurd ok q)
  · exact r_said (by omega) hM (fun q => absurd q hb) (fun _ => H _ _ _ _ _ _ _ hI)
theorem st_byTurns (hK : 40 ≤ K) (hI : INV A L F n nb tc) (H : Fin2 g) : xm_Call K sX8_byTurns 8 [.ref 0, .int x1, .int x2, .int x3] (HP A L F) (xm_pi fun c h => xm_Call K sX9_byTurns 9 [.ref 44, .int x1, .int x2, .int x3] h (xm_pi fun c' h' => g c c' h')) := by
  obtain ⟨y, hN, hM, hR⟩ := hI.get
  have hn8 := hM.1.1.2.1
  refine q_byTurns (by omega) hN (fun ok p l l1 l2 e1 e2 A1 F1 s1 => ?_) (fun hb => ?_)
  · refine r_byTurns (by omega) (s1.mod hM) (fun ok' p' l' l1' l2' e1' e2' A2 F2 q2 => ?_) (fun q => absurd ok q)
    have h1 := same (by omega) (by omega) e1 e1'
    have h2 := same (by omega) (by omega) e2 e2'
    have h3 : l = l' := by omega
    subst h1
    subst h3
    exact H _ _ _ _ _ _ _ ((hI.sc s1).mq q2)
  · exact r_byTurns (by omega) hM (fun q => absurd q hb) (fun _ => H _ _ _ _ _ _ _ hI)
theorem st_drawn (hK : 40 ≤ K) (hI : INV A L F n nb tc) (H : Fin2 g) : xm_Call K sX8_drawn 8 [.ref 0, .int z, .int x2, .int x3] (HP A L F) (xm_pi fun c h => xm_Call K sX9_drawn 9 [.ref 44, .int z, .int x2, .int x3] h (xm_pi fun c' h' => g c c' h')) := by
  obtain ⟨y, hN, hM, hR⟩ := hI.get
  have hn8 := hM.1.1.2.1
  refine q_drawn (by omega) hN (fun ok lv ld p e1 e2 l1 l2 e3 A1 F1 s1 => ?_) (fun hb => ?_)
  · refine r_drawn (by omega) (s1.mod hM) hR (fun ok' lv' ld' p' e1' e2' l1' l2' e3' A2 F2 q2 => ?_) (fun q => absurd ok q)
    have h1 := same (by omega) (by omega) e1 e1'
    have h2 := same (by omega) (by omega) e2 e2'
    subst h1
    subst h2
    have hd : dwS tc (A 2) n y (rmI x2 100) z x3 p ld lv = dwS tc (A 2) n y (rmI x2 100) z x3 p' ld lv := by
      rcases e3 with hx | ⟨hx, hp⟩
      · have key : ∀ i, dwS tc (A 2) n y (rmI x2 100) z x3 p ld i = dwS tc (A 2) n y (rmI x2 100) z x3 p' ld i := by
          intro i
          induction i with
          | zero => rfl
          | succ i ih =>
            show dwS tc (A 2) n y (rmI x2 100) z x3 p ld i + (if x3 = -1 then _ else _) = dwS tc (A 2) n y (rmI x2 100) z x3 p' ld i + (if x3 = -1 then _ else _)
            rw [ih, if_pos hx, if_pos hx]
        exact key lv
      · rcases e3' with hx' | ⟨hx', hp'⟩
        · exact absurd (hx.symm.trans hx') (nn1 (by omega))
        · have := same (by omega) (by omega) hx hx'
          subst this
          rfl
    rw [hd]
    exact H _ _ _ _ _ _ _ ((hI.sc s1).mq q2)
  · exact r_drawn (by omega) hM hR (fun q => absurd q hb) (fun _ => H _ _ _ _ _ _ _ hI)
end STA
