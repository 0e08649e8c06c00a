section BOE
variable {A : Nat → Nat → Int32} {L : Nat → Nat → Int64} {F : Nat → Nat → Int32} {gv : xm_H → Prop} {w n p k j y e m r o a d u K nb km i t b fr : Nat} {x x1 x2 x3 x4 x5 v z B : Int32} {h : xm_H} {tc : (Nat → Int32) → Int32} {c : Nat → Int32} {q : Int64} {s : Nat × (Nat → Int32)} {l l1 l2 : List Int32}
def sayR (d : Nat) (B x : Int32) : Int32 × List Int32 := match d with
  | 1 => (x + B + 3, [20, 1])
  | 4 => (x + B + 3, [20, 1])
  | 6 => ((x + B) * 2, [70, 1])
  | 7 => ((x + B) * 2 - 1, [81, 70, 1])
  | _ => (x + B, [1])
def pctR (d : Nat) (B x : Int32) : Int32 × List Int32 := ((sayR d B x).1 * 2, 10 :: (sayR d B x).2)
def sgtR (d : Nat) (B x : Int32) : Int32 × List Int32 := (-(pctR d B x).1, 30 :: (pctR d B x).2)
def goR (d : Nat) (B x : Int32) : Int32 × List Int32 := match d with
  | 3 => ((x ^^^ B) * 3, [40, 11])
  | 5 => ((x ^^^ B) * 3 - (sayR d B 2).1, [60, 40, 11] ++ (sayR d B 2).2)
  | _ => (x ^^^ B, [11])
def cntR (d : Nat) (B x : Int32) : Int32 × List Int32 := match d with
  | 2 => sgtR d B x
  | 3 => ((sgtR d B (x + 1)).1, 41 :: (sgtR d B (x + 1)).2)
  | 5 => ((sgtR d B (x + 1)).1, 41 :: (sgtR d B (x + 1)).2)
  | 7 => ((pctR d B x).1 + (goR d B 2).1, 80 :: ((pctR d B x).2 ++ (goR d B 2).2))
  | _ => pctR d B x
def ptlR (d : Nat) (B x : Int32) : Int32 × List Int32 := ((cntR d B x).1 - (goR d B 1).1, 2 :: ((cntR d B x).2 ++ (goR d B 1).2))
def telR (d : Nat) (B x : Int32) : Int32 × List Int32 := match d with
  | 4 => ((ptlR d B x).1 ^^^ 5, 50 :: (ptlR d B x).2)
  | 5 => ((ptlR d B x).1 + 1, 61 :: (ptlR d B x).2)
  | _ => ptlR d B x
theorem sayL (hd : d < 8) : (sayR d B x).2.length ≤ 3 := by
  rcases eight hd with rfl | rfl | rfl | rfl | rfl | rfl | rfl | rfl <;> simp [sayR]
theorem goL (hd : d < 8) : (goR d B x).2.length ≤ 6 := by
  rcases eight hd with rfl | rfl | rfl | rfl | rfl | rfl | rfl | rfl <;> simp [sayR, goR]
theorem cntL (hd : d < 8) : (cntR d B x).2.length ≤ 12 := by
  rcases eight hd with rfl | rfl | rfl | rfl | rfl | rfl | rfl | rfl <;> simp [sayR, goR, cntR, pctR, sgtR]
theorem telL (hd : d < 8) : (telR d B x).2.length ≤ 20 := by
  rcases eight hd with rfl | rfl | rfl | rfl | rfl | rfl | rfl | rfl <;> simp [sayR, goR, cntR, pctR, sgtR, telR, ptlR]
theorem m_plainSays {g : Int32 → xm_H → Prop} (hK : 1 < K) (hs : s.1 < 999) (H : g (x + B) (TR A L F (rn [1] s))) : xm_Call K sX9_plainSays 9 [.ref 44, .int B, .int x] (TR A L F s) (xm_pi g) :=
  eX9_plainSays (K := 1) hK ⟨_, rfl⟩ (m_ran (by omega) (by omega) (xm_pi_i H))
theorem m_nightSays {g : Int32 → xm_H → Prop} (hK : 2 < K) (hs : s.1 < 990) (H : g ((x + B) * 2) (TR A L F (rn [70, 1] s))) : xm_Call K sX9_nightSays 9 [.ref 44, .int B, .int x] (TR A L F s) (xm_pi g) :=
  eX9_nightSays (K := 2) hK ⟨_, rfl⟩ (m_ran (by omega) (by omega) (m_plainSays (by omega) (by show s.1 + 1 < _; omega) (xm_pi_i H)))
theorem m_saying {g : Int32 → xm_H → Prop} (hK : 3 < K) (hb : b < 50) (hd : d < 8) (e75 : A 75 b = Int32.ofNat d) (hs : s.1 < 980) (H : g (sayR d (Int32.ofNat b) x).1 (TR A L F (rn (sayR d (Int32.ofNat b) x).2 s))) : xm_Call K sX9_saying 9 [.ref 44, .int (Int32.ofNat b), .int x] (TR A L F s) (xm_pi g) := by
  have e : va_up A 76 s.2 75 b = Int32.ofNat d := e75
  refine eX9_saying (K := 3) hK ⟨_, rfl⟩ ⟨_, rfl, _, ln_75 hb, ?_⟩
  rw [e]
  refine m_isUnder (k := 1) (by omega) hd (by omega) ?_
  by_cases h1 : d = 1 ∨ d = 4
  · have hu : ¬ undS d 1 = 0 := by rcases h1 with rfl | rfl <;> decide
    have er : sayR d (Int32.ofNat b) x = (x + Int32.ofNat b + 3, [20, 1]) := by rcases h1 with rfl | rfl <;> rfl
    rw [er] at H
    rw [if_neg hu]
    exact m_ran (by omega) (by omega) (m_plainSays (by omega) (by show s.1 + 1 < _; omega) (xm_pi_i H))
  · have hu : undS d 1 = 0 := by
      rcases eight hd with rfl | rfl | rfl | rfl | rfl | rfl | rfl | rfl <;> first | rfl | exact absurd (by omega) h1
    rw [if_pos hu]
    refine ⟨_, rfl, _, ln_75 hb, ?_⟩
    rw [e]
    by_cases h7 : d = 7
    · subst h7
      rw [if_pos (by decide)]
      exact m_ran (by omega) (by omega) (m_nightSays (by omega) (by show s.1 + 1 < _; omega) (xm_pi_i H))
    · rw [if_neg (show ¬ Int32.ofNat d = (7 : Int32) from fun q => h7 ((n_eq (q := 7) (by omega) (by omega)).mp q))]
      refine ⟨_, rfl, _, ln_75 hb, ?_⟩
      rw [e]
      by_cases h6 : d = 6
      · subst h6
        rw [if_pos (by decide)]
        exact m_nightSays (by omega) (by omega) (xm_pi_i H)
      · rw [if_neg (show ¬ Int32.ofNat d = (6 : Int32) from fun q => h6 ((n_eq (q := 6) (by omega) (by omega)).mp q))]
        have er : sayR d (Int32.ofNat b) x = (x + Int32.ofNat b, [1]) := by
          rcases eight hd with rfl | rfl | rfl | rfl | rfl | rfl | rfl | rfl <;> first | rfl | exact absurd rfl h7 | exact absurd rfl h6 | exact absurd (by omega) h1
        rw [er] at H
        exact m_plainSays (by omega) (by omega) (xm_pi_i H)
theorem m_plainCounts {g : Int32 → xm_H → Prop} (hK : 4 < K) (hb : b < 50) (hd : d < 8) (e75 : A 75 b = Int32.ofNat d) (hs : s.1 < 970) (H : g (pctR d (Int32.ofNat b) x).1 (TR A L F (rn (pctR d (Int32.ofNat b) x).2 s))) : xm_Call K sX9_plainCounts 9 [.ref 44, .int (Int32.ofNat b), .int x] (TR A L F s) (xm_pi g) :=
  eX9_plainCounts (K := 4) hK ⟨_, rfl⟩ (m_ran (by omega) (by omega) (m_saying (by omega) hb hd e75 (by show s.1 + 1 < _; omega) (xm_pi_i H)))
theorem m_sighCounts {g : Int32 → xm_H → Prop} (hK : 5 < K) (hb : b < 50) (hd : d < 8) (e75 : A 75 b = Int32.ofNat d) (hs : s.1 < 960) (H : g (sgtR d (Int32.ofNat b) x).1 (TR A L F (rn (sgtR d (Int32.ofNat b) x).2 s))) : xm_Call K sX9_sighCounts 9 [.ref 44, .int (Int32.ofNat b), .int x] (TR A L F s) (xm_pi g) :=
  eX9_sighCounts (K := 5) hK ⟨_, rfl⟩ (m_ran (by omega) (by omega) (m_plainCounts (by omega) hb hd e75 (by show s.1 + 1 < _; omega) (xm_pi_i H)))
theorem m_plainGoes {g : Int32 → xm_H → Prop} (hK : 1 < K) (hs : s.1 < 999) (H : g (x ^^^ B) (TR A L F (rn [11] s))) : xm_Call K sX9_plainGoes 9 [.ref 44, .int B, .int x] (TR A L F s) (xm_pi g) :=
  eX9_plainGoes (K := 1) hK ⟨_, rfl⟩ (m_ran (by omega) (by omega) (xm_pi_i H))
theorem m_sleepGoes {g : Int32 → xm_H → Prop} (hK : 2 < K) (hs : s.1 < 990) (H : g ((x ^^^ B) * 3) (TR A L F (rn [40, 11] s))) : xm_Call K sX9_sleepGoes 9 [.ref 44, .int B, .int x] (TR A L F s) (xm_pi g) :=
  eX9_sleepGoes (K := 2) hK ⟨_, rfl⟩ (m_ran (by omega) (by omega) (m_plainGoes (by omega) (by show s.1 + 1 < _; omega) (xm_pi_i H)))
theorem m_going {g : Int32 → xm_H → Prop} (hK : 4 < K) (hb : b < 50) (hd : d < 8) (e75 : A 75 b = Int32.ofNat d) (hs : s.1 < 960) (H : g (goR d (Int32.ofNat b) x).1 (TR A L F (rn (goR d (Int32.ofNat b) x).2 s))) : xm_Call K sX9_going 9 [.ref 44, .int (Int32.ofNat b), .int x] (TR A L F s) (xm_pi g) := by
  have e : va_up A 76 s.2 75 b = Int32.ofNat d := e75
  refine eX9_going (K := 4) hK ⟨_, rfl⟩ ⟨_, rfl, _, ln_75 hb, ?_⟩
  rw [e]
  by_cases h5 : d = 5
  · subst h5
    rw [if_pos (by decide)]
    have H' : g ((x ^^^ Int32.ofNat b) * 3 - (sayR 5 (Int32.ofNat b) 2).1) (TR A L F (rn ([60, 40, 11] ++ (sayR 5 (Int32.ofNat b) 2).2) s)) := H
    rw [rn_app] at H'
    exact m_ran (by omega) (by omega) (m_sleepGoes (by omega) (by show s.1 + 1 < _; omega) (m_saying (by omega) hb hd e75 (by show s.1 + 1 + 1 + 1 < _; omega) (xm_pi_i H')))
  · rw [if_neg (show ¬ Int32.ofNat d = (5 : Int32) from fun q => h5 ((n_eq (q := 5) (by omega) (by omega)).mp q))]
    refine ⟨_, rfl, _, ln_75 hb, ?_⟩
    rw [e]
    by_cases h3 : d = 3
    · subst h3
      rw [if_pos (by decide)]
      exact m_sleepGoes (by omega) (by omega) (xm_pi_i H)
    · rw [if_neg (show ¬ Int32.ofNat d = (3 : Int32) from fun q => h3 ((n_eq (q := 3) (by omega) (by omega)).mp q))]
      have er : goR d (Int32.ofNat b) x = (x ^^^ Int32.ofNat b, [11]) := by
        rcases eight hd with rfl | rfl | rfl | rfl | rfl | rfl | rfl | rfl <;> first | rfl | exact absurd rfl h5 | exact absurd rfl h3
      rw [er] at H
      exact m_plainGoes (by omega) (by omega) (xm_pi_i H)
theorem m_counting {g : Int32 → xm_H → Prop} (hK : 6 < K) (hb : b < 50) (hd : d < 8) (e75 : A 75 b = Int32.ofNat d) (hs : s.1 < 900) (H : g (cntR d (Int32.ofNat b) x).1 (TR A L F (rn (cntR d (Int32.ofNat b) x).2 s))) : xm_Call K sX9_counting 9 [.ref 44, .int (Int32.ofNat b), .int x] (TR A L F s) (xm_pi g) := by
  have e : va_up A 76 s.2 75 b = Int32.ofNat d := e75
  refine eX9_counting (K := 6) hK ⟨_, rfl⟩ ⟨_, rfl, _, ln_75 hb, ?_⟩
  rw [e]
  refine m_isUnder (k := 3) (by omega) hd (by omega) ?_
  by_cases h1 : d = 3 ∨ d = 5
  · have hu : ¬ undS d 3 = 0 := by rcases h1 with rfl | rfl <;> decide
    have er : cntR d (Int32.ofNat b) x = ((sgtR d (Int32.ofNat b) (x + 1)).1, 41 :: (sgtR d (Int32.ofNat b) (x + 1)).2) := by rcases h1 with rfl | rfl <;> rfl
    rw [er] at H
    rw [if_neg hu]
    exact m_ran (by omega) (by omega) (m_sighCounts (by omega) hb hd e75 (by show s.1 + 1 < _; omega) (xm_pi_i H))
  · have hu : undS d 3 = 0 := by
      rcases eight hd with rfl | rfl | rfl | rfl | rfl | rfl | rfl | rfl <;> first | rfl | exact absurd (by omega) h1
    rw [if_pos hu]
    refine ⟨_, rfl, _, ln_75 hb, ?_⟩
    rw [e]
    by_cases h7 : d = 7
    · subst h7
      rw [if_pos (by decide)]
      have H' : g ((pctR 7 (Int32.ofNat b) x).1 + (goR 7 (Int32.ofNat b) 2).1) (TR A L F (rn ((pctR 7 (Int32.ofNat b) x).2 ++ (goR 7 (Int32.ofNat b) 2).2) (wr s 80))) := H
      rw [rn_app] at H'
      refine m_ran (by omega) (by omega) (m_plainCounts (by omega) hb hd e75 (by show s.1 + 1 < _; omega) (m_going (by omega) hb hd e75 ?_ (xm_pi_i H')))
      rw [rn_1]
      show s.1 + 1 + 4 < _
      omega
    · rw [if_neg (show ¬ Int32.ofNat d = (7 : Int32) from fun q => h7 ((n_eq (q := 7) (by omega) (by omega)).mp q))]
      refine ⟨_, rfl, _, ln_75 hb, ?_⟩
      rw [e]
      by_cases h6 : d = 2
      · subst h6
        rw [if_pos (by decide)]
        exact m_sighCounts (by omega) hb hd e75 (by omega) (xm_pi_i H)
      · rw [if_neg (show ¬ Int32.ofNat d = (2 : Int32) from fun q => h6 ((n_eq (q := 2) (by omega) (by omega)).mp q))]
        have er : cntR d (Int32.ofNat b) x = pctR d (Int32.ofNat b) x := by
          rcases eight hd with rfl | rfl | rfl | rfl | rfl | rfl | rfl | rfl <;> first | rfl | exact absurd rfl h7 | exact absurd rfl h6 | exact absurd (by omega) h1
        rw [er] at H
        exact m_plainCounts (by omega) hb hd e75 (by omega) (xm_pi_i H)
theorem m_plainTells {g : Int32 → xm_H → Prop} (hK : 7 < K) (hb : b < 50) (hd : d < 8) (e75 : A 75 b = Int32.ofNat d) (hs : s.1 < 800) (H : g (ptlR d (Int32.ofNat b) x).1 (TR A L F (rn (ptlR d (Int32.ofNat b) x).2 s))) : xm_Call K sX9_plainTells 9 [.ref 44, .int (Int32.ofNat b), .int x] (TR A L F s) (xm_pi g) := by
  have H' : g ((cntR d (Int32.ofNat b) x).1 - (goR d (Int32.ofNat b) 1).1) (TR A L F (rn ((cntR d (Int32.ofNat b) x).2 ++ (goR d (Int32.ofNat b) 1).2) (wr s 2))) := H
  rw [rn_app] at H'
  refine eX9_plainTells (K := 7) hK ⟨_, rfl⟩ (m_ran (by omega) (by omega) (m_counting (by omega) hb hd e75 (by show s.1 + 1 < _; omega) (m_going (by omega) hb hd e75 ?_ (xm_pi_i H'))))
  have hl := cntL (d := d) (B := Int32.ofNat b) (x := x) hd
  rw [rn_1]
  show s.1 + 1 + _ < _
  omega
theorem m_telling {g : Int32 → xm_H → Prop} (hK : 8 < K) (hb : b < 50) (hd : d < 8) (e75 : A 75 b = Int32.ofNat d) (hs : s.1 < 700) (H : g (telR d (Int32.ofNat b) x).1 (TR A L F (rn (telR d (Int32.ofNat b) x).2 s))) : xm_Call K sX9_telling 9 [.ref 44, .int (Int32.ofNat b), .int x] (TR A L F s) (xm_pi g) := by
  have e : va_up A 76 s.2 75 b = Int32.ofNat d := e75
  refine eX9_telling (K := 8) hK ⟨_, rfl⟩ ⟨_, rfl, _, ln_75 hb, ?_⟩
  rw [e]
  by_cases h4 : d = 4
  · subst h4
    rw [if_pos (by decide)]
    exact m_ran (by omega) (by omega) (m_plainTells (by omega) hb hd e75 (by show s.1 + 1 < _; omega) (xm_pi_i H))
  · rw [if_neg (show ¬ Int32.ofNat d = (4 : Int32) from fun q => h4 ((n_eq (q := 4) (by omega) (by omega)).mp q))]
    refine ⟨_, rfl, _, ln_75 hb, ?_⟩
    rw [e]
    by_cases h5 : d = 5
    · subst h5
      rw [if_pos (by decide)]
      exact m_ran (by omega) (by omega) (m_plainTells (by omega) hb hd e75 (by show s.1 + 1 < _; omega) (xm_pi_i H))
    · rw [if_neg (show ¬ Int32.ofNat d = (5 : Int32) from fun q => h5 ((n_eq (q := 5) (by omega) (by omega)).mp q))]
      have er : telR d (Int32.ofNat b) x = ptlR d (Int32.ofNat b) x := by
        rcases eight hd with rfl | rfl | rfl | rfl | rfl | rfl | rfl | rfl <;> first | rfl | exact absurd rfl h4 | exact absurd rfl h5
      rw [er] at H
      exact m_plainTells (by omega) hb hd e75 (by omega) (xm_pi_i H)
def actR (a d : Nat) (B x : Int32) : Int32 × List Int32 := if a = 0 then sayR d B x else if a = 1 then cntR d B x else if a = 2 then goR d B x else telR d B x
theorem actL (hd : d < 8) : (actR a d B x).2.length ≤ 20 := by
  have h1 := sayL (B := B) (x := x) hd
  have h2 := cntL (B := B) (x := x) hd
  have h3 := goL (B := B) (x := x) hd
  have h4 := telL (B := B) (x := x) hd
  unfold actR
  split
  · omega
  · split
    · omega
    · split <;> omega
theorem act_eq (hd : d < 8) (ha : a < 4) : pf d B 8 d a x = some (actR a d B x) := by
  rcases eight hd with rfl | rfl | rfl | rfl | rfl | rfl | rfl | rfl <;> rcases four ha with rfl | rfl | rfl | rfl <;> rfl
/-- bodies have changed -/
theorem INV.bod {A' F' : Nat → Nat → Int32} {nb' : Nat} (hI : INV A L F n nb tc) (hn : nb ≤ nb') (hA : Ag [29, 30, 75, 76] A A') (hF : Ag [28, 44] F F') (hF4 : ∀ k, k ≠ 50 → k ≠ 52 → F' 44 k = F 44 k) (hB : BdR A' F' nb') : INV A' L F' n nb' tc := by
  obtain ⟨⟨b, t1, t2⟩, ⟨c1, c2, c3⟩, d1, -, d3⟩ := hI
  have eA : ∀ k, k ∉ [29, 30, 75, 76] → A' k = A k := hA
  have eF : ∀ k, k ∉ [28, 44] → F' k = F k := hF
  refine ⟨⟨b.to (eA 2 (by simp)) (by rw [eA 4 (by simp)]; exact b.2.1.2.1) (fun p h1 h2 => ?_) (fun k h1 h2 => eA k (by simp; omega)) ⟨by rw [eF 1 (by simp)], hF4 1 (by omega) (by omega)⟩, t1.to (eA 7 (by simp)) (eF 6 (by simp)), t2.to hA (by simp) (hF4 30 (by omega) (by omega))⟩, ⟨c1.to ⟨eA 17 (by simp), eA 18 (by simp), eA 19 (by simp), eA 54 (by simp), eA 55 (by simp), eA 56 (by simp), eA 57 (by simp)⟩ ⟨by rw [eF 16 (by simp)], by rw [eF 16 (by simp)], hF4 11 (by omega) (by omega), hF4 12 (by omega) (by omega)⟩, c2.to ⟨eA 20 (by simp), eA 72 (by simp)⟩, c3.to (Nat.le_refl _) ⟨eA 22 (by simp), eA 23 (by simp), eA 73 (by simp), eA 74 (by simp)⟩ ⟨by rw [eF 0 (by simp)], by rw [eF 21 (by simp)], hF4 45 (by omega) (by omega), hF4 46 (by omega) (by omega), hF4 47 (by omega) (by omega)⟩⟩, d1.to ⟨eA 14 (by simp), eA 58 (by simp)⟩ ⟨by rw [eF 13 (by simp)], hF4 18 (by omega) (by omega)⟩, hB, fun s hs => ?_⟩
  · rw [eA 66 (by simp), eA 67 (by simp), eA 68 (by simp), eA 69 (by simp)]
    exact b.2.1.2.2 p h1 h2
  · rw [eA 77 (by simp), eA 78 (by simp), eF _ (by simp; omega)]
    rcases d3 s hs with h | ⟨h1, b, h2, h3⟩ | h
    · exact Or.inl h
    · exact Or.inr (Or.inl ⟨h1, b, by omega, h3⟩)
    · exact Or.inr (Or.inr h)
theorem st_body {g : Int32 → Int32 → xm_H → Prop} (hK : 40 ≤ K) (hI : INV A L F n nb tc) (H : Fin2 g) : xm_Call K sX8_body 8 [.ref 0, .int x] (HP A L F) (xm_pi fun c h => xm_Call K sX9_body 9 [.ref 44, .int x] h (xm_pi fun c' h' => g c c' h')) := by
  have hI0 := hI
  obtain ⟨-, -, -, ⟨⟨n0, n1, n2, n3⟩, t, t0, t1, t2, t3⟩, -⟩ := hI0
  have fail : ∀ v, g v v (HP A L F) := fun v => H _ _ _ _ _ _ _ hI
  refine eX8_body (K := 5) (by omega) ⟨_, rfl⟩ (c_isKind (by omega) (fun d hd he => ?_) (fun hb => ?_))
  · rw [if_neg (by decide)]
    refine ⟨_, rfl, eX1_add (K := 4) (by omega) ⟨_, rfl⟩ ⟨_, rfl, ?_⟩⟩
    have in7 : ∀ {gg : Int32 → xm_H → Prop} {hh : xm_H}, gg 1 hh → xm_Call 5 sX9_in 99 [.int x, .int 0, .int 7] hh (xm_pi gg) := fun Hg => m_in2 (by omega) (fun _ _ => Hg) (fun hb => by
      subst he
      rcases hb with hb | hb
      · exact absurd hb (xs_nn (by omega))
      · exact absurd ((n_lt (p := 7) (by omega) (by omega)).mp hb) (by omega))
    rw [n1]
    by_cases h50 : nb < 50
    · rw [if_pos (show Int32.ofNat nb < (50 : Int32) from (n_lt (q := 50) (by omega) (by omega)).mpr h50)]
      refine ⟨_, rfl, _, rfl, ?_⟩
      rw [n1]
      refine ⟨_, sn_29 h50, _, rfl, _, p_28_1, xm_pi_i ?_⟩
      rw [if_neg (by decide)]
      refine ⟨_, rfl, _, rfl, xm_pi_i ?_⟩
      rw [u_eq, u_eq, n1, n_succ, n_pred]
      refine eX9_body (K := 5) (by omega) ⟨_, rfl⟩ (in7 ?_)
      rw [if_neg (by decide)]
      refine ⟨_, rfl, ?_⟩
      rw [u_ne (by omega), n2, if_neg (show ¬ Int32.ofNat nb = (50 : Int32) from fun q => absurd ((n_eq (q := 50) (by omega) (by omega)).mp q) (by omega))]
      refine ⟨_, rfl, _, rfl, ?_⟩
      rw [u_ne (by omega), n2]
      refine ⟨_, sn_75 h50, _, rfl, _, p_44_50, _, rfl, xm_pi_i ?_⟩
      rw [u_eq, u_eq, u_ne (by omega), n2, n_succ, n_pred]
      refine H _ _ _ _ _ _ _ (hI.bod (nb' := nb + 1) (by omega) (Ag.up (Ag.up Ag.rf (by simp)) (by simp)) (Ag.up (Ag.up Ag.rf (by simp)) (by simp)) (fun k h1 h2 => by rw [u_eq, u_ne h1]) ⟨⟨by omega, rfl, rfl, fun k hk => ?_⟩, t, t0, t1, t2, t3⟩)
      show ∃ d, d < 8 ∧ upd (A 29) nb x k = Int32.ofNat d ∧ upd (A 75) nb x k = Int32.ofNat d
      by_cases e : k = nb
      · subst e; rw [p_eq, p_eq]; exact ⟨d, hd, he, he⟩
      · rw [p_ne e, p_ne e]; exact n3 k (by omega)
    · rw [if_neg (show ¬ Int32.ofNat nb < (50 : Int32) from n_ge (q := 50) (by omega) (by omega) (by omega))]
      refine xm_pi_i ?_
      rw [if_pos rfl]
      refine xm_pi_i (eX9_body (K := 5) (by omega) ⟨_, rfl⟩ (in7 ?_))
      rw [if_neg (by decide)]
      refine ⟨_, rfl, ?_⟩
      rw [n2, show nb = 50 by omega, if_pos (by decide)]
      exact xm_pi_i (fail _)
  · rw [if_pos rfl]
    refine xm_pi_i (eX9_body (K := 5) (by omega) ⟨_, rfl⟩ (m_in2 (by omega) (fun a1 a2 => ?_) (fun _ => ?_)))
    · obtain ⟨k, hk, ek⟩ := i_le 7 (by omega) a1 a2
      exact (no8 (by omega) ek hb).elim
    · rw [if_pos rfl]; exact xm_pi_i (fail _)
theorem rn_at : ∀ (l : List Int32) (s s' : Nat × (Nat → Int32)), s.1 = s'.1 → (∀ k, k < s.1 → k < 24 → s.2 k = s'.2 k) → ∀ k, k < (rn l s).1 → k < 24 → (rn l s).2 k = (rn l s').2 k
  | [], s, s', _, h => h
  | v :: l, s, s', h1, h2 => by
    refine rn_at l (wr s v) (wr s' v) (by show s.1 + 1 = s'.1 + 1; omega) (fun k hk h24 => ?_)
    have hk' : k < s.1 + 1 := hk
    show (if s.1 < 24 then upd s.2 s.1 v else s.2) k = (if s'.1 < 24 then upd s'.2 s'.1 v else s'.2) k
    rw [← h1]
    by_cases h : s.1 < 24
    · rw [if_pos h, if_pos h]
      by_cases e : k = s.1
      · rw [e, p_eq, p_eq]
      · rw [p_ne e, p_ne e]; exact h2 k (by omega) h24
    · rw [if_neg h, if_neg h]; exact h2 k (by omega) h24
theorem up_id {α : Type} {A : Nat → α} {c : Nat} : va_up A c (A c) = A := by
  funext k
  by_cases h : k = c
  · subst h; rw [u_eq]
  · rw [u_ne h]
theorem TS_0 : HP A L (va_up F 28 (va_up (F 28) 3 0)) = TS A L F (0, A 30) := by
  unfold TS
  show _ = HP (va_up A 30 (A 30)) L _
  rw [up_id]
  rfl
theorem TR_0 : HP A L (va_up F 44 (va_up (F 44) 52 0)) = TR A L F (0, A 76) := by
  unfold TR
  show _ = HP (va_up A 76 (A 76)) L _
  rw [up_id]
  rfl
theorem r_act {g : Int32 → xm_H → Prop} (hK : 12 ≤ K) (n2 : F 44 50 = Int32.ofNat nb) (n0 : nb ≤ 50) (n3 : ∀ k, k < nb → ∃ d, d < 8 ∧ A 29 k = Int32.ofNat d ∧ A 75 k = Int32.ofNat d) (H : ∀ b a d, b < nb → a < 4 → d < 8 → x1 = Int32.ofNat b → x2 = Int32.ofNat a → A 75 b = Int32.ofNat d → g (actR a d (Int32.ofNat b) x3).1 (TR A L F (rn (actR a d (Int32.ofNat b) x3).2 (0, A 76)))) (H2 : ((x1 < 0 ∨ ¬ x1 < Int32.ofNat nb) ∨ x2 < 0 ∨ ¬ x2 < 4) → g 0 (TR A L F (0, A 76))) : xm_Call K sX9_act 9 [.ref 44, .int x1, .int x2, .int x3] (HP A L F) (xm_pi g) := by
  refine eX9_act (K := 11) (by omega) ⟨_, rfl⟩ ⟨_, p_44_52, ?_⟩
  have key : HP A L (va_up F 44 (va_up (F 44) 52 0)) = TR A L F (0, A 76) := TR_0
  rw [key]
  refine m_isBody (A := va_up A 76 (A 76)) (F := va_up F 44 (va_up (F 44) 52 (Int32.ofNat 0))) (nb := nb) (by omega) (by rw [u_eq, u_ne (by omega)]; exact n2) n0 (fun b hb eb => ?_) (fun hb => ?_)
  · rw [if_neg (by decide)]
    obtain ⟨d, hd, d1, d2⟩ := n3 b hb
    refine m_in2 (by omega) (fun a1 a2 => ?_) (fun hb => ?_)
    · rw [if_neg (by decide)]
      obtain ⟨a, ha, ea⟩ := i_le 3 (by omega) a1 a2
      have HH := H b a d hb (by omega) hd eb ea d2
      rw [eb, ea]
      rcases four (show a < 4 by omega) with rfl | rfl | rfl | rfl
      · rw [if_pos (by decide)]
        exact m_saying (s := (0, A 76)) (by omega) (by omega) hd d2 (by show 0 < _; omega) (xm_pi_i HH)
      · rw [if_neg (by decide), if_pos (by decide)]
        exact m_counting (s := (0, A 76)) (by omega) (by omega) hd d2 (by show 0 < _; omega) (xm_pi_i HH)
      · rw [if_neg (by decide), if_neg (by decide), if_pos (by decide)]
        exact m_going (s := (0, A 76)) (by omega) (by omega) hd d2 (by show 0 < _; omega) (xm_pi_i HH)
      · rw [if_neg (by decide), if_neg (by decide), if_neg (by decide)]
        exact m_telling (s := (0, A 76)) (by omega) (by omega) hd d2 (by show 0 < _; omega) (xm_pi_i HH)
    · rw [if_pos rfl]
      refine xm_pi_i (H2 (Or.inr (hb.imp id (fun q1 q2 => ?_))))
      have t3 : (3 : Int32).toInt = 3 := rfl
      have t4 : (4 : Int32).toInt = 4 := rfl
      rw [Int32.lt_iff_toInt_lt] at q1 q2
      omega
  · rw [if_pos rfl]; exact xm_pi_i (H2 (Or.inl hb))
theorem q_act {g : Int32 → xm_H → Prop} (hK : 30 ≤ K) (n1 : F 28 1 = Int32.ofNat nb) (n0 : nb ≤ 50) (n3 : ∀ k, k < nb → ∃ d, d < 8 ∧ A 29 k = Int32.ofNat d ∧ A 75 k = Int32.ofNat d) (H : ∀ b a d, b < nb → a < 4 → d < 8 → x1 = Int32.ofNat b → x2 = Int32.ofNat a → A 75 b = Int32.ofNat d → g (actR a d (Int32.ofNat b) x3).1 (TS A L (va_up F 28 (va_up (F 28) 4 (Int32.ofNat b))) (rn (actR a d (Int32.ofNat b) x3).2 (0, A 30)))) (H2 : ((x1 < 0 ∨ ¬ x1 < Int32.ofNat nb) ∨ x2 < 0 ∨ ¬ x2 < 4) → g 0 (TS A L F (0, A 30))) : xm_Call K sX8_act 8 [.ref 0, .int x1, .int x2, .int x3] (HP A L F) (xm_pi g) := by
  refine eX8_act (K := 29) (by omega) ⟨_, rfl⟩ ⟨_, rfl, eX1_start (K := 28) (by omega) ⟨_, rfl⟩ ⟨_, p_28_3, ?_⟩⟩
  refine c_bhas (nb := nb) (by omega) (by rw [u_eq, u_ne (by omega)]; exact n1) n0 (fun b hb eb => ?_) (fun hb => ?_)
  · rw [if_neg (by decide)]
    by_cases h0 : x2 < 0
    · rw [if_pos h0]; refine xm_pi_i (xm_pi_i ?_); rw [TS_0]; exact H2 (Or.inr (Or.inl h0))
    rw [if_neg h0]
    by_cases h4 : x2 < 4
    · rw [if_pos h4]
      obtain ⟨d, hd, d1, d2⟩ := n3 b hb
      obtain ⟨a, ha, ea⟩ := n_of (n := 4) (by omega) h0 h4
      have HH := H b a d hb ha hd eb ea d2
      refine ⟨_, p_28_4, _, rfl, ?_⟩
      rw [eb, ea]
      refine ⟨_, ln_29 (by omega), ?_⟩
      rw [d1]
      have hF : va_up (va_up F 28 (va_up (F 28) 3 0)) 28 (va_up (va_up F 28 (va_up (F 28) 3 0) 28) 4 (Int32.ofNat b)) = va_up (va_up F 28 (va_up (F 28) 4 (Int32.ofNat b))) 28 (va_up (va_up F 28 (va_up (F 28) 4 (Int32.ofNat b)) 28) 3 0) := by
        rw [u_eq, u_eq, up3, up3, vcm (by omega)]
      rw [hF, TS_0]
      refine c_perform (d := d) (b := b) (nb := nb) ⟨hb, n0, hd, ?_, ?_, d1⟩ 8 28 d a x3 0 (0, A 30) _ _ (act_eq hd ha) hd ha (by omega) (by omega) ?_ (xm_pi_i (xm_pi_i HH))
      · rw [u_eq, u_ne (by omega)]; exact n1
      · rw [u_eq, u_eq]
      · have := actL (a := a) (B := Int32.ofNat b) (x := x3) hd
        show 0 + _ < _
        omega
    · rw [if_neg h4]; refine xm_pi_i (xm_pi_i ?_); rw [TS_0]; exact H2 (Or.inr (Or.inr h4))
  · rw [if_pos rfl]; refine xm_pi_i (xm_pi_i ?_); rw [TS_0]; exact H2 (Or.inl hb)
theorem st_act {g : Int32 → Int32 → xm_H → Prop} (hK : 40 ≤ K) (hI : INV A L F n nb tc) (H : Fin2 g) : xm_Call K sX8_act 8 [.ref 0, .int x1, .int x2, .int x3] (HP A L F) (xm_pi fun c h => xm_Call K sX9_act 9 [.ref 44, .int x1, .int x2, .int x3] h (xm_pi fun c' h' => g c c' h')) := by
  have hI0 := hI
  obtain ⟨-, -, -, ⟨⟨n0, n1, n2, n3⟩, t, t0, t1, t2, t3⟩, -⟩ := hI0
  have fin : ∀ (l : List Int32) (v G4 : Int32) (F1 : Nat → Nat → Int32), l.length ≤ 20 → (∀ k, k ≠ 28 → F1 k = F k) → F1 28 1 = Int32.ofNat nb → g v v (HP (va_up (va_up A 30 (rn l (0, A 30)).2) 76 (rn l (0, A 76)).2) L (va_up (va_up F1 28 (va_up (F1 28) 3 (Int32.ofNat (rn l (0, A 30)).1))) 44 (va_up (F 44) 52 (Int32.ofNat (rn l (0, A 76)).1)))) := by
    intro l v _ F1 hl hF1 h1
    refine H _ _ _ _ _ _ _ (hI.bod (nb' := nb) (by omega) (Ag.up (Ag.up Ag.rf (by simp)) (by simp)) (fun k hk => ?_) (fun k h1 h2 => by rw [u_eq, u_ne h2]) ⟨⟨n0, ?_, ?_, n3⟩, l.length, by omega, ?_, ?_, fun k hk h24 => ?_⟩)
    · simp at hk; rw [u_ne hk.2, u_ne hk.1]; exact hF1 k hk.1
    · rw [u_ne (by omega), u_eq, u_ne (by omega)]; exact h1
    · rw [u_eq, u_ne (by omega)]; exact n2
    · rw [u_ne (by omega), u_eq, u_eq, rn_1]; show Int32.ofNat (0 + l.length) = _; rw [Nat.zero_add]
    · rw [u_eq, u_eq, rn_1]; show Int32.ofNat (0 + l.length) = _; rw [Nat.zero_add]
    · show (rn l (0, A 30)).2 k = (rn l (0, A 76)).2 k
      exact rn_at l (0, A 30) (0, A 76) rfl (fun k hk => absurd hk (Nat.not_lt_zero _)) k (by rw [rn_1]; show k < 0 + l.length; omega) h24
  refine q_act (nb := nb) (by omega) n1 n0 n3 (fun b a d hb ha hd eb ea ed => ?_) (fun hb => ?_)
  · refine r_act (nb := nb) (by omega) ?_ n0 n3 (fun b' a' d' hb' ha' hd' eb' ea' ed' => ?_) (fun q => ?_)
    · rw [u_ne (by omega), u_ne (by omega)]; exact n2
    · have := same (by omega) (by omega) eb eb'
      subst this
      have := same (by omega) (by omega) ea ea'
      subst this
      have hdd : d = d' := (n_eq (by omega) (by omega)).mp (ed.symm.trans ed')
      subst hdd
      exact fin (actR a d (Int32.ofNat b) x3).2 _ 0 (va_up F 28 (va_up (F 28) 4 (Int32.ofNat b))) (actL hd) (fun k hk => u_ne hk) (by rw [u_eq, u_ne (by omega)]; exact n1)
    · subst eb; subst ea
      rcases q with (q | q) | q | q
      · exact absurd q (xs_nn (by omega))
      · exact absurd ((n_lt (by omega) (by omega)).mpr hb) q
      · exact absurd q (xs_nn (by omega))
      · exact absurd ((n_lt (q := 4) (by omega) (by omega)).mpr ha) q
  · refine r_act (nb := nb) (by omega) ?_ n0 n3 (fun b' a' d' hb' ha' hd' eb' ea' ed' => ?_) (fun q => ?_)
    · rw [u_ne (by omega)]; exact n2
    · subst eb'; subst ea'
      rcases hb with (q | q) | q | q
      · exact absurd q (xs_nn (by omega))
      · exact absurd ((n_lt (by omega) (by omega)).mpr hb') q
      · exact absurd q (xs_nn (by omega))
      · exact absurd ((n_lt (q := 4) (by omega) (by omega)).mpr ha') q
    · exact fin [] 0 0 F (by decide) (fun _ _ => rfl) n1
end BOE
