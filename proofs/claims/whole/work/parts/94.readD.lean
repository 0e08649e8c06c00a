section RDD
variable {A : Nat → Nat → Int32} {L : Nat → Nat → Int64} {F : Nat → Nat → Int32} {A' F' : Nat → Nat → Int32} {gv : xm_H → Prop} {g : Int32 → xm_H → Prop} {sg : Nat → Nat} {K t p r o m v s n k f ch : Nat} {x x1 x2 x3 x4 z : Int32} {h : xm_H} {cs : List Int32} {acc l : List Nat}
def PoC (A F : Nat → Nat → Int32) (L : Nat → Nat → Int64) (sg : Nat → Nat) (t : Nat) (cs : List Int32) (res : Nat × Option (List Nat)) (g : Int32 → xm_H → Prop) : Prop := (∀ l A' F', res.2 = some l → RdC A F t res.1 (cs ++ l.map Int32.ofNat) A' F' → g 1 (HP A' L F')) ∧ (∀ v A' F', res.2 = none → RdF A F t res.1 A' F' → (v = 0 ∨ (v = 1 ∧ isD (sg res.1))) → g v (HP A' L F'))
theorem rg_dig (h : isD s) : rgN s = 9 := by
  unfold rgN
  rw [if_neg (by omega), if_neg (by omega), if_neg (by omega), if_neg (by omega), if_neg (by omega)]
theorem c_doom (hT : TpC A sg t) (hK : 0 < K) (h : RdF A F t p A' F') (hd : isD (sg p)) (hp : p ≤ t) (hr : r ≤ 4) (H : g 1 (HP A' L F')) : xm_L K sX3_readRung kX3_readRung 25 [some (.ref 13), some (.int (Int32.ofNat r)), some (.int x2), some (.int x3), some (.int x4), none] [] (HP A' L F') (xm_pi g) := by
  obtain ⟨g1, g2, g3⟩ := h.get
  refine xX3_readRung_25 ?_
  by_cases hl : x4 < x3
  · rw [if_pos hl]
    refine c_next3 (sg := sg) hK hT g1 g2 g3 hp (fun x hs _ => c_rungOf hK hs ?_)
    rw [if_neg (fun q => by have := (rgI_eq hr).mp q; rw [rg_dig hd] at this; omega)]
    exact xm_pi_i H
  · rw [if_neg hl]; exact xm_pi_i H
theorem map_len {l : List Nat} : (cs ++ l.map Int32.ofNat).length = cs.length + l.length := by rw [List.length_append, List.length_map]
theorem c_read (hT : TpC A sg t) : ∀ f : Nat,
    (∀ (K r o p : Nat) (res : Nat × Option (List Nat)) (cs : List Int32) (A1 F1 : Nat → Nat → Int32) (g : Int32 → xm_H → Prop), pX sg f 0 r o p [] = some res → r ≤ 5 → o ≤ 6 → p ≤ t → 10 * (7 - o) + 11 - r ≤ K → cs.length ≤ p → RdC A F t p cs A1 F1 → PoC A F L sg t cs res g → xm_Call K sX3_readRung 3 [.ref 13, .int (Int32.ofNat r), .int (Int32.ofNat o)] (HP A1 L F1) (xm_pi g)) ∧
    (∀ (K o p : Nat) (res : Nat × Option (List Nat)) (cs : List Int32) (A1 F1 : Nat → Nat → Int32) (g : Int32 → xm_H → Prop), pX sg f 0 5 o p [] = some res → o ≤ 6 → p ≤ t → 10 * (7 - o) + 5 ≤ K → cs.length ≤ p → RdC A F t p cs A1 F1 → PoC A F L sg t cs res g → xm_Call K sX3_readOperand 3 [.ref 13, .int (Int32.ofNat o)] (HP A1 L F1) (xm_pi g)) ∧
    (∀ (K r o p : Nat) (acc : List Nat) (turn most : Nat) (res : Nat × Option (List Nat)) (cs : List Int32) (A1 F1 : Nat → Nat → Int32) (g : Int32 → xm_H → Prop), pX sg f 1 r o p acc = some res → r ≤ 4 → o ≤ 6 → p ≤ t → 10 * (7 - o) + 11 - r ≤ K + 1 → cs.length + acc.length ≤ p → turn ≤ p → ((r = 2 ∧ most = 1 ∧ turn = 0) ∨ (r ≠ 2 ∧ most = 120)) → RdC A F t p (cs ++ acc.map Int32.ofNat) A1 F1 → PoC A F L sg t cs res g → xm_L K sX3_readRung kX3_readRung 25 [some (.ref 13), some (.int (Int32.ofNat r)), some (.int (Int32.ofNat o)), some (.int (Int32.ofNat most)), some (.int (Int32.ofNat turn)), none] [] (HP A1 L F1) (xm_pi g)) := by
  have t1 := hT.1
  have t2 := hT.2.1
  intro f
  induction f with
  | zero => exact ⟨fun K r o p res cs A1 F1 g hr => absurd hr (by intro q; cases q), fun K o p res cs A1 F1 g hr => absurd hr (by intro q; cases q), fun K r o p acc turn most res cs A1 F1 g hr => absurd hr (by intro q; cases q)⟩
  | succ f ih =>
    obtain ⟨ih1, ih2, ih3⟩ := ih
    have hO : ∀ (K o p : Nat) (res : Nat × Option (List Nat)) (cs : List Int32) (A1 F1 : Nat → Nat → Int32) (g : Int32 → xm_H → Prop), pX sg (f + 1) 0 5 o p [] = some res → o ≤ 6 → p ≤ t → 10 * (7 - o) + 5 ≤ K → cs.length ≤ p → RdC A F t p cs A1 F1 → PoC A F L sg t cs res g → xm_Call K sX3_readOperand 3 [.ref 13, .int (Int32.ofNat o)] (HP A1 L F1) (xm_pi g) := by
      intro K o p res cs A1 F1 g hr ho hp hK hl rd ⟨Hok, Hf⟩
      have hr' : pO sg (pX sg f) o p = some res := hr
      clear hr
      unfold pO at hr'
      obtain ⟨g1, g2, g3⟩ := rd.get
      refine eX3_readOperand (K := 10 * (7 - o) + 4) (by omega) ⟨_, rfl⟩ (c_next3 (sg := sg) (by omega) hT g1 g2 g3 hp (fun x hs hx => c_isDig (by omega) hs (fun hd => ?_) (fun hd => ?_)))
      · rw [if_neg (by decide)]
        rw [if_pos hd] at hr'
        have e := Option.some.inj hr'
        subst e
        refine eX3_readNumber (K := 3) (by omega) ⟨_, rfl⟩ (c_num (sg := sg) hT (by omega) 4 p 0 A1 F1 (by omega) hp (by omega) rd (fun A2 F2 r2 => ?_))
        by_cases hd2 : isD (sg (pDig sg 4 p 0).1)
        · refine xm_pi_i (Hf 1 A2 F2 (by show (if isD (sg (pDig sg 4 p 0).1) then none else _) = none; rw [if_pos hd2]) (r2.toF ?_) (Or.inr ⟨rfl, hd2⟩))
          rw [List.length_append]; show cs.length + 1 ≤ 128; omega
        · exact xm_pi_i (Hok [1000 + (pDig sg 4 p 0).2] A2 F2 (by show (if isD (sg (pDig sg 4 p 0).1) then none else _) = _; rw [if_neg hd2]) r2)
      · rw [if_pos rfl]
        rw [if_neg hd] at hr'
        refine c_nameOf3 (by omega) hs ?_
        by_cases hn : nmN (sg p) < 6
        · rw [if_neg (fun q => nmI_neg.mp q hn)]
          rw [if_pos hn] at hr'
          have e := Option.some.inj hr'
          subst e
          refine ⟨_, rfl, _, p_13_2, ?_⟩
          rw [g3, n_succ]
          refine c_emitC (by omega) rd.go (by omega) (fun A2 F2 r2 => xm_pi_i (Hok [nmN (sg p)] A2 F2 rfl ?_))
          have en : nmI (sg p) = Int32.ofNat (nmN (sg p)) := if_pos hn
          rw [en] at r2
          exact r2
        rw [if_pos (nmI_neg.mpr hn)]
        rw [if_neg hn] at hr'
        by_cases ho6 : 6 ≤ o
        · rw [if_neg (show ¬ Int32.ofNat o < (6 : Int32) from n_ge (q := 6) (by omega) (by omega) ho6)]
          rw [if_pos ho6] at hr'
          have e := Option.some.inj hr'
          subst e
          exact xm_pi_i (Hf 0 A1 F1 rfl (rd.toF (by omega)) (Or.inl rfl))
        rw [if_pos (show Int32.ofNat o < (6 : Int32) from (n_lt (q := 6) (by omega) (by omega)).mpr (by omega))]
        rw [if_neg ho6] at hr'
        have e40 : x = (40 : Int32) ↔ sg p = 40 := hs.eq (ch := 40) (by omega)
        have e33 : x = (33 : Int32) ↔ sg p = 33 := hs.eq (ch := 33) (by omega)
        have e45 : x = (45 : Int32) ↔ sg p = 45 := hs.eq (ch := 45) (by omega)
        by_cases h40 : sg p = 40
        · rw [if_pos (e40.mpr h40)]
          rw [if_pos h40] at hr'
          have hpt : p < t := t2.lt (by omega)
          refine ⟨_, rfl, _, p_13_2, ?_⟩
          rw [if_pos (e40.mpr h40), g3, n_succ, n_succ]
          rcases then1_e hr' with ⟨p1, e1, rfl⟩ | ⟨p1, l1, e1, e2⟩
          · obtain ⟨-, a2, -⟩ := pX_f t2 _ _ _ _ _ _ _ e1 (by omega) (by omega) (by omega)
            refine ih1 _ 0 (o + 1) (p + 1) _ cs _ _ _ e1 (by omega) (by omega) (by omega) (by omega) (by omega) rd.go ⟨fun l A2 F2 q => absurd q (by intro z; cases z), fun v A2 F2 _ rf hv => ?_⟩
            obtain ⟨k1, k2, k3⟩ := rf.get
            rcases hv with rfl | ⟨rfl, hd2⟩
            · rw [if_pos rfl]; exact xm_pi_i (Hf 0 A2 F2 rfl rf (Or.inl rfl))
            · rw [if_neg (by decide)]
              refine c_accept (sg := sg) (ch := 41) (by omega) hT (by omega) k1 k2 k3 a2 (fun q => ?_) (fun _ => ?_)
              · have hd3 : isD (sg p1) := hd2
                have q' : sg p1 = 41 := q
                omega
              · rw [if_pos rfl]; exact xm_pi_i (Hf 0 A2 F2 rfl rf (Or.inl rfl))
          · obtain ⟨a1, a2, a3⟩ := pX_f t2 _ _ _ _ _ _ _ e1 (by omega) (by omega) (by omega)
            obtain ⟨b1, -, -⟩ := (a3 l1 rfl).1 rfl
            have a1' : p + 1 ≤ p1 := a1
            have a2' : p1 ≤ t := a2
            have b1' : l1.length ≤ p1 - (p + 1) := b1
            refine ih1 _ 0 (o + 1) (p + 1) _ cs _ _ _ e1 (by omega) (by omega) (by omega) (by omega) (by omega) rd.go ⟨fun l A2 F2 q r2 => ?_, fun v A2 F2 q => absurd q (by intro z; cases z)⟩
            have := Option.some.inj q
            subst this
            try dsimp only
            obtain ⟨k1, k2, k3⟩ := r2.get
            rw [if_neg (by decide)]
            refine c_accept (sg := sg) (ch := 41) (by omega) hT (by omega) k1 k2 k3 a2 (fun q => ?_) (fun q => ?_)
            · rw [if_neg (by decide)]
              rw [if_pos q] at e2
              have e := Option.some.inj e2
              subst e
              exact xm_pi_i (Hok l1 _ _ rfl r2.go)
            · rw [if_pos rfl]
              rw [if_neg q] at e2
              have e := Option.some.inj e2
              subst e
              exact xm_pi_i (Hf 0 A2 F2 rfl (r2.toF (by rw [map_len]; omega)) (Or.inl rfl))
        rw [if_neg (fun q => h40 (e40.mp q))]
        rw [if_neg h40] at hr'
        -- a sign before an operand
        have sign : (sg p = 33 ∨ sg p = 45) → ∃ f17, xm_fld (HP A1 L F1) 13 3 2 = some (.int f17) ∧ ∃ h18, xm_put (HP A1 L F1) 13 3 2 (.int (f17 + (1 : Int32))) = some h18 ∧ (if x = (40 : Int32) then xm_Call (10 * (7 - o) + 4) sX3_readRung 3 [.ref 13, .int (0 : Int32), .int (Int32.ofNat o + (1 : Int32))] h18 (xm_pi fun c20 h19 => (if c20 = 0 then xm_pi g (some (.int (0 : Int32))) h19 else xm_Call (10 * (7 - o) + 4) sX3_accept 3 [.ref 13, .int (41 : Int32)] h19 (xm_pi fun c22 h21 => (if c22 = 0 then xm_pi g (some (.int (0 : Int32))) h21 else xm_pi g (some (.int (1 : Int32))) h21)))) else xm_Call (10 * (7 - o) + 4) sX3_readOperand 3 [.ref 13, .int (Int32.ofNat o + (1 : Int32))] h18 (xm_pi fun c24 h23 => (if c24 = 0 then xm_pi g (some (.int (0 : Int32))) h23 else (if x = (45 : Int32) then xm_Call (10 * (7 - o) + 4) sX3_emit 3 [.ref 13, .int (126 : Int32)] h23 (xm_pv fun h25 => xm_pi g (some (.int (1 : Int32))) h25) else xm_Call (10 * (7 - o) + 4) sX3_emit 3 [.ref 13, .int x] h23 (xm_pv fun h26 => xm_pi g (some (.int (1 : Int32))) h26))))) := by
          intro h33
          rw [if_pos h33] at hr'
          have hpt : p < t := t2.lt (by omega)
          refine ⟨_, rfl, _, p_13_2, ?_⟩
          rw [if_neg (fun q => h40 (e40.mp q)), g3, n_succ, n_succ]
          rcases then1_e hr' with ⟨p1, e1, rfl⟩ | ⟨p1, l1, e1, e2⟩
          · refine ih2 _ (o + 1) (p + 1) _ cs _ _ _ e1 (by omega) (by omega) (by omega) (by omega) rd.go ⟨fun l A2 F2 q => absurd q (by intro z; cases z), fun v A2 F2 _ rf hv => ?_⟩
            rcases hv with rfl | ⟨rfl, hd2⟩
            · rw [if_pos rfl]; exact xm_pi_i (Hf 0 A2 F2 rfl rf (Or.inl rfl))
            · rw [if_neg (by decide)]
              by_cases h45 : sg p = 45
              · rw [if_pos (e45.mpr h45)]
                exact c_emitF (by omega) rf (fun A3 F3 r3 => xm_pi_i (Hf 1 A3 F3 rfl r3 (Or.inr ⟨rfl, hd2⟩)))
              · rw [if_neg (fun q => h45 (e45.mp q))]
                exact c_emitF (by omega) rf (fun A3 F3 r3 => xm_pi_i (Hf 1 A3 F3 rfl r3 (Or.inr ⟨rfl, hd2⟩)))
          · obtain ⟨a1, a2, a3⟩ := pX_f t2 _ _ _ _ _ _ _ e1 (by omega) (by omega) (by omega)
            obtain ⟨b1, -, -⟩ := (a3 l1 rfl).1 rfl
            have a1' : p + 1 ≤ p1 := a1
            have a2' : p1 ≤ t := a2
            have b1' : l1.length ≤ p1 - (p + 1) := b1
            have e := Option.some.inj e2
            subst e
            refine ih2 _ (o + 1) (p + 1) _ cs _ _ _ e1 (by omega) (by omega) (by omega) (by omega) rd.go ⟨fun l A2 F2 q r2 => ?_, fun v A2 F2 q => absurd q (by intro z; cases z)⟩
            have := Option.some.inj q
            subst this
            try dsimp only
            rw [if_neg (by decide)]
            have fin : ∀ (y : Int32) (A3 F3 : Nat → Nat → Int32), y = Int32.ofNat (if sg p = 45 then 126 else 33) → RdC A F t p1 (cs ++ l1.map Int32.ofNat ++ [y]) A3 F3 → g 1 (HP A3 L F3) := by
              intro y A3 F3 hy r3
              refine Hok (l1 ++ [if sg p = 45 then 126 else 33]) A3 F3 rfl ?_
              rw [List.map_append, ← List.append_assoc]
              rw [hy] at r3
              exact r3
            by_cases h45 : sg p = 45
            · rw [if_pos (e45.mpr h45)]
              exact c_emitC (by omega) r2 (by rw [map_len]; omega) (fun A3 F3 r3 => xm_pi_i (fin _ A3 F3 (by rw [if_pos h45]; rfl) r3))
            · rw [if_neg (fun q => h45 (e45.mp q))]
              exact c_emitC (by omega) r2 (by rw [map_len]; omega) (fun A3 F3 r3 => xm_pi_i (fin _ A3 F3 (by rw [if_neg h45]; exact e33.mpr (by omega)) r3))
        by_cases h33 : sg p = 33
        · rw [if_pos (e33.mpr h33)]; exact sign (Or.inl h33)
        rw [if_neg (fun q => h33 (e33.mp q))]
        by_cases h45 : sg p = 45
        · rw [if_pos (e45.mpr h45)]; exact sign (Or.inr h45)
        rw [if_neg (fun q => h45 (e45.mp q))]
        rw [if_neg (by omega)] at hr'
        have e := Option.some.inj hr'
        subst e
        exact xm_pi_i (Hf 0 A1 F1 rfl (rd.toF (by omega)) (Or.inl rfl))
    refine ⟨?_, hO, ?_⟩
    · intro K r o p res cs A1 F1 g hr h5 ho hp hK hl rd hpo
      by_cases r5 : r < 5
      · obtain ⟨Hok, Hf⟩ := hpo
        have hr' : (if r < 5 then then1 (pX sg f 0 (r + 1) o p []) (fun p1 l => pX sg f 1 r o p1 l) else pO sg (pX sg f) o p) = some res := hr
        rw [if_pos r5] at hr'
        refine eX3_readRung (K := 10 * (7 - o) + 10 - r) (by omega) ⟨_, rfl⟩ ?_
        rw [if_pos (show Int32.ofNat r < (5 : Int32) from (n_lt (q := 5) (by omega) (by omega)).mpr r5), n_succ]
        rcases then1_e hr' with ⟨p1, e1, rfl⟩ | ⟨p1, l1, e1, e2⟩
        · obtain ⟨-, a2, -⟩ := pX_f t2 _ _ _ _ _ _ _ e1 (by omega) (by omega) (by omega)
          refine ih1 _ (r + 1) o p _ cs _ _ _ e1 (by omega) ho hp (by omega) hl rd ⟨fun l A2 F2 q => absurd q (by intro z; cases z), fun v A2 F2 _ rf hv => ?_⟩
          rcases hv with rfl | ⟨rfl, hd2⟩
          · rw [if_pos rfl]; exact xm_pi_i (Hf 0 A2 F2 rfl rf (Or.inl rfl))
          · rw [if_neg (by decide)]
            have H1 : g 1 (HP A2 L F2) := Hf 1 A2 F2 rfl rf (Or.inr ⟨rfl, hd2⟩)
            by_cases r2 : r = 2
            · subst r2
              rw [if_pos (by decide)]
              exact c_doom (sg := sg) (r := 2) hT (by omega) rf hd2 a2 (by omega) H1
            · rw [if_neg (show ¬ Int32.ofNat r = (2 : Int32) from fun q => r2 ((n_eq (q := 2) (by omega) (by omega)).mp q))]
              exact c_doom (sg := sg) hT (by omega) rf hd2 a2 (by omega) H1
        · obtain ⟨a1, a2, a3⟩ := pX_f t2 _ _ _ _ _ _ _ e1 (by omega) (by omega) (by omega)
          obtain ⟨b1, -, -⟩ := (a3 l1 rfl).1 rfl
          have a1' : p ≤ p1 := a1
          have b1' : l1.length ≤ p1 - p := b1
          refine ih1 _ (r + 1) o p _ cs _ _ _ e1 (by omega) ho hp (by omega) hl rd ⟨fun l A2 F2 q r2 => ?_, fun v A2 F2 q => absurd q (by intro z; cases z)⟩
          have := Option.some.inj q
          subst this
          try dsimp only
          rw [if_neg (by decide)]
          by_cases r22 : r = 2
          · subst r22
            rw [if_pos (by decide)]
            exact ih3 _ 2 o p1 l1 0 1 res cs A2 F2 g e2 (by omega) ho a2 (by omega) (by omega) (by omega) (Or.inl ⟨rfl, rfl, rfl⟩) r2 ⟨Hok, Hf⟩
          · rw [if_neg (show ¬ Int32.ofNat r = (2 : Int32) from fun q => r22 ((n_eq (q := 2) (by omega) (by omega)).mp q))]
            exact ih3 _ r o p1 l1 0 120 res cs A2 F2 g e2 (by omega) ho a2 (by omega) (by omega) (by omega) (Or.inr ⟨r22, rfl⟩) r2 ⟨Hok, Hf⟩
      · have e5 : r = 5 := by omega
        subst e5
        refine eX3_readRung (K := 10 * (7 - o) + 5) (by omega) ⟨_, rfl⟩ ?_
        rw [if_neg (by decide)]
        obtain ⟨Hok, Hf⟩ := hpo
        refine hO _ o p res cs A1 F1 _ hr ho hp (by omega) hl rd ⟨fun l A2 F2 q r2 => ?_, fun v A2 F2 q rf hv => ?_⟩
        · try dsimp only
          rw [if_pos (Or.inr rfl)]; exact xm_pi_i (Hok l A2 F2 q r2)
        · try dsimp only
          rw [if_pos (hv.imp id (fun z => z.1))]; exact xm_pi_i (Hf v A2 F2 q rf hv)
    · intro K r o p acc turn most res cs A1 F1 g hr r4 ho hp hK hl htn hmost rd hpo
      obtain ⟨Hok, Hf⟩ := hpo
      have hr' : (if rgN (sg p) = r then then1 (pX sg f 0 (r + 1) o (p + 1) []) (fun p1 l => if r = 2 then some (p1, some (acc ++ l ++ [sg p])) else pX sg f 1 r o p1 (acc ++ l ++ [sg p])) else some (p, some acc)) = some res := hr
      obtain ⟨g1, g2, g3⟩ := rd.get
      refine xX3_readRung_25 ?_
      by_cases hlt : turn < most
      · rw [if_pos ((n_lt (by omega) (by omega)).mpr hlt)]
        refine c_next3 (sg := sg) (by omega) hT g1 g2 g3 hp (fun x hs _ => c_rungOf (by omega) hs ?_)
        by_cases hg : rgN (sg p) = r
        · rw [if_pos ((rgI_eq r4).mpr hg)]
          rw [if_pos hg] at hr'
          have hpt : p < t := t2.lt (rg_le (by omega))
          have h256 := (t2 p).1 hpt
          refine c_next3 (sg := sg) (by omega) hT g1 g2 g3 hp (fun x2 _ hx2 => ⟨_, rfl, _, p_13_2, ?_⟩)
          rw [hx2 h256, g3, n_succ p, n_succ r, n_succ turn]
          rcases then1_e hr' with ⟨p1, e1, rfl⟩ | ⟨p1, l1, e1, e2⟩
          · obtain ⟨-, a2, -⟩ := pX_f t2 _ _ _ _ _ _ _ e1 (by omega) (by omega) (by omega)
            refine ih1 _ (r + 1) o (p + 1) _ (cs ++ acc.map Int32.ofNat) _ _ _ e1 (by omega) ho (by omega) (by omega) (by rw [map_len]; omega) rd.go ⟨fun l A2 F2 q => absurd q (by intro z; cases z), fun v A2 F2 _ rf hv => ?_⟩
            rcases hv with rfl | ⟨rfl, hd2⟩
            · rw [if_pos rfl]; exact xm_pi_i (Hf 0 A2 F2 rfl rf (Or.inl rfl))
            · rw [if_neg (by decide)]
              exact c_emitF (by omega) rf (fun A3 F3 r3 => c_doom (sg := sg) hT (by omega) r3 hd2 a2 r4 (Hf 1 A3 F3 rfl r3 (Or.inr ⟨rfl, hd2⟩)))
          · obtain ⟨a1, a2, a3⟩ := pX_f t2 _ _ _ _ _ _ _ e1 (by omega) (by omega) (by omega)
            obtain ⟨b1, -, -⟩ := (a3 l1 rfl).1 rfl
            have a1' : p + 1 ≤ p1 := a1
            have a2' : p1 ≤ t := a2
            have b1' : l1.length ≤ p1 - (p + 1) := b1
            refine ih1 _ (r + 1) o (p + 1) _ (cs ++ acc.map Int32.ofNat) _ _ _ e1 (by omega) ho (by omega) (by omega) (by rw [map_len]; omega) rd.go ⟨fun l A2 F2 q r2 => ?_, fun v A2 F2 q => absurd q (by intro z; cases z)⟩
            have := Option.some.inj q
            subst this
            try dsimp only
            rw [if_neg (by decide)]
            have len2 : (cs ++ acc.map Int32.ofNat ++ l1.map Int32.ofNat).length = cs.length + acc.length + l1.length := by rw [map_len, map_len]
            refine c_emitC (by omega) r2 (by omega) (fun A3 F3 r3 => ?_)
            have r4' : RdC A F t p1 (cs ++ (acc ++ l1 ++ [sg p]).map Int32.ofNat) A3 F3 := by
              rw [List.map_append, List.map_append, ← List.append_assoc, ← List.append_assoc]
              exact r3
            rcases hmost with ⟨h2, hm1, ht0⟩ | ⟨h2, hm1⟩
            · rw [if_pos h2] at e2
              have e := Option.some.inj e2
              subst e
              refine xX3_readRung_25 ?_
              rw [if_neg (n_ge (by omega) (by omega) (by omega))]
              exact xm_pi_i (Hok _ A3 F3 rfl r4')
            · rw [if_neg h2] at e2
              have lacc : (acc ++ l1 ++ [sg p]).length = acc.length + l1.length + 1 := by rw [List.length_append, List.length_append]; rfl
              exact ih3 _ r o p1 _ (turn + 1) most res cs A3 F3 g e2 r4 ho a2 hK (by omega) (by omega) (Or.inr ⟨h2, hm1⟩) r4' ⟨Hok, Hf⟩
        · rw [if_neg (fun q => hg ((rgI_eq r4).mp q))]
          rw [if_neg hg] at hr'
          have e := Option.some.inj hr'
          subst e
          exact xm_pi_i (Hok acc A1 F1 rfl rd)
      · rw [if_neg (n_ge (by omega) (by omega) (by omega))]
        have hne : ¬ rgN (sg p) = r := fun q => by
          have : p < t := t2.lt (rg_le (by omega))
          omega
        rw [if_neg hne] at hr'
        have e := Option.some.inj hr'
        subst e
        exact xm_pi_i (Hok acc A1 F1 rfl rd)
end RDD
