section RDN
variable {A : Nat → Nat → Int32} {L : Nat → Nat → Int64} {F : Nat → Nat → Int32} {A' F' : Nat → Nat → Int32} {gv : xm_H → Prop} {g : Int32 → xm_H → Prop} {P : Option Value → xm_H → Prop} {sg : Nat → Nat} {K K' t p r o m v s n k f ch q ln : Nat} {x x1 x2 x3 x4 y z : Int32} {h : xm_H} {ts acc l : List Nat} {b : (Nat → Int32) × (Nat → Int32) × (Nat → Int32)}
def sRg (r : Nat) := match r with
  | 0 => sX9_either
  | 1 => sX9_both
  | 2 => sX9_compared
  | 3 => sX9_sum
  | 4 => sX9_product
  | _ => sX9_operand
def lRg (r K : Nat) (h : xm_H) (P : Option Value → xm_H → Prop) : Prop := match r with
  | 0 => xm_L K sX9_either kX9_either 2 [some (.ref 44)] [] h P
  | 1 => xm_L K sX9_both kX9_both 2 [some (.ref 44)] [] h P
  | 2 => xm_Call K sX9_look 9 [.ref 44] h (xm_pi fun c3 h2 =>
        ∃ f4, xm_fld h2 44 9 20 = some (.int f4) ∧
        (if f4 < 0 then
          (if c3 = (60 : Int32) then
            ∃ f5, xm_fld h2 44 9 19 = some (.int f5) ∧
            ∃ h6, xm_put h2 44 9 19 (.int (f5 + (1 : Int32))) = some h6 ∧
            xm_Call K sX9_sum 9 [.ref 44] h6 (xm_pv fun h7 =>
              xm_Call K sX9_addStep 9 [.ref 44, .int c3, .int (0 : Int32)] h7 (xm_pv fun h8 =>
                P none h8))
          else
            (if c3 = (61 : Int32) then
              ∃ f9, xm_fld h2 44 9 19 = some (.int f9) ∧
              ∃ h10, xm_put h2 44 9 19 (.int (f9 + (1 : Int32))) = some h10 ∧
              xm_Call K sX9_sum 9 [.ref 44] h10 (xm_pv fun h11 =>
                xm_Call K sX9_addStep 9 [.ref 44, .int c3, .int (0 : Int32)] h11 (xm_pv fun h12 =>
                  P none h12))
            else
              (if c3 = (62 : Int32) then
                ∃ f13, xm_fld h2 44 9 19 = some (.int f13) ∧
                ∃ h14, xm_put h2 44 9 19 (.int (f13 + (1 : Int32))) = some h14 ∧
                xm_Call K sX9_sum 9 [.ref 44] h14 (xm_pv fun h15 =>
                  xm_Call K sX9_addStep 9 [.ref 44, .int c3, .int (0 : Int32)] h15 (xm_pv fun h16 =>
                    P none h16))
              else
                P none h2)))
        else
          P none h2))
  | 3 => xm_L K sX9_sum kX9_sum 2 [some (.ref 44), none] [] h P
  | _ => xm_L K sX9_product kX9_product 2 [some (.ref 44), none] [] h P
theorem five (hr : r ≤ 4) : r = 0 ∨ r = 1 ∨ r = 2 ∨ r = 3 ∨ r = 4 := by omega
theorem eRg (hr : r ≤ 4) (hK : K < K') (H : xm_Call K (sRg (r + 1)) 9 [.ref 44] (HP A' L F') (xm_pv fun h1 => lRg r K h1 P)) : xm_Call K' (sRg r) 9 [.ref 44] (HP A' L F') P := by
  rcases five hr with rfl | rfl | rfl | rfl | rfl
  · exact eX9_either hK ⟨_, rfl⟩ H
  · exact eX9_both hK ⟨_, rfl⟩ H
  · exact eX9_compared hK ⟨_, rfl⟩ H
  · exact eX9_sum hK ⟨_, rfl⟩ H
  · exact eX9_product hK ⟨_, rfl⟩ H
theorem lRg_bad (hr : r ≤ 4) (hK : 0 < K) (hT : TpM A sg t) (ht : F 44 18 = Int32.ofNat t) (hn : RdN A F p q ln b A' F') (hp : p < 1000) (hq : q ≤ t) (H : P none (HP A' L F')) : lRg r K (HP A' L F') P := by
  obtain ⟨⟨a1, a2, a3, a4, a5⟩, b1, b2, b4⟩ := hn
  have h0 : ¬ F' 44 20 < 0 := by rw [b2]; exact xs_nn (by omega)
  rcases five hr with rfl | rfl | rfl | rfl | rfl
  · exact xX9_either_2 ⟨_, rfl, by rw [if_neg h0]; exact H⟩
  · exact xX9_both_2 ⟨_, rfl, by rw [if_neg h0]; exact H⟩
  · refine m_look (sg := sg) hK hT (a1 58 (by simp)) (by rw [a4 18 (by simp)]; exact ht) b1 hq (fun x _ _ => ⟨_, rfl, ?_⟩)
    rw [if_neg h0]; exact H
  · exact xX9_sum_2 ⟨_, rfl, by rw [if_neg h0]; exact H⟩
  · exact xX9_product_2 ⟨_, rfl, by rw [if_neg h0]; exact H⟩
theorem lRg_ok (hr : r ≤ 4) (hK : 0 < K) (hT : TpM A sg t) (ht : F 44 18 = Int32.ofNat t) (hm : RdM A F t p o ts b A' F') (hp : p ≤ t) (Hyes : rgN (sg p) = r → xm_Call K (sRg (r + 1)) 9 [.ref 44] (HP A' L (va_up F' 44 (va_up (F' 44) 19 (Int32.ofNat (p + 1))))) (xm_pv fun h8 => xm_Call K sX9_addStep 9 [.ref 44, .int (Int32.ofNat (sg p)), .int (0 : Int32)] h8 (xm_pv fun h9 => if r = 2 then P none h9 else lRg r K h9 P))) (Hno : rgN (sg p) ≠ r → P none (HP A' L F')) : lRg r K (HP A' L F') P := by
  have h20 : F' 44 20 < 0 := by rw [hm.2.2.1]; decide
  obtain ⟨g1, g2, g3⟩ := hm.get ht
  rcases five hr with rfl | rfl | rfl | rfl | rfl
  · refine xX9_either_2 ⟨_, rfl, ?_⟩
    rw [if_pos h20]
    refine m_look (sg := sg) hK hT g1 g2 g3 hp (fun x hs _ => ?_)
    have e1 : x = (124 : Int32) ↔ sg p = 124 := hs.eq (ch := 124) (by omega)
    by_cases h1 : sg p = 124
    · rw [if_pos (e1.mpr h1)]
      have := Hyes (by rw [h1]; rfl)
      refine ⟨_, rfl, _, p_44_19, ?_⟩
      rw [g3, n_succ]
      rw [h1] at this
      exact this
    · rw [if_neg (fun q => h1 (e1.mp q))]
      refine Hno (fun q => h1 ?_)
      unfold rgN at q
      split at q
      · assumption
      · split at q
        · omega
        · split at q
          · omega
          · split at q
            · omega
            · split at q <;> omega
  · refine xX9_both_2 ⟨_, rfl, ?_⟩
    rw [if_pos h20]
    refine m_look (sg := sg) hK hT g1 g2 g3 hp (fun x hs _ => ?_)
    have e1 : x = (38 : Int32) ↔ sg p = 38 := hs.eq (ch := 38) (by omega)
    by_cases h1 : sg p = 38
    · rw [if_pos (e1.mpr h1)]
      have := Hyes (by rw [h1]; rfl)
      refine ⟨_, rfl, _, p_44_19, ?_⟩
      rw [g3, n_succ]
      rw [h1] at this
      exact this
    · rw [if_neg (fun q => h1 (e1.mp q))]
      refine Hno (fun q => h1 ?_)
      unfold rgN at q
      split at q
      · omega
      · split at q
        · omega
        · split at q
          · omega
          · split at q <;> omega
  · refine m_look (sg := sg) hK hT g1 g2 g3 hp (fun x hs hx => ⟨_, rfl, ?_⟩)
    rw [if_pos h20]
    have e1 : x = (60 : Int32) ↔ sg p = 60 := hs.eq (ch := 60) (by omega)
    have e2 : x = (61 : Int32) ↔ sg p = 61 := hs.eq (ch := 61) (by omega)
    have e3 : x = (62 : Int32) ↔ sg p = 62 := hs.eq (ch := 62) (by omega)
    have yes : (sg p = 60 ∨ sg p = 61 ∨ sg p = 62) → ∃ f5, xm_fld (HP A' L F') 44 9 19 = some (.int f5) ∧ ∃ h6, xm_put (HP A' L F') 44 9 19 (.int (f5 + (1 : Int32))) = some h6 ∧ xm_Call K sX9_sum 9 [.ref 44] h6 (xm_pv fun h7 => xm_Call K sX9_addStep 9 [.ref 44, .int x, .int (0 : Int32)] h7 (xm_pv fun h8 => P none h8)) := by
      intro hc
      have := Hyes (by unfold rgN; rw [if_neg (by omega), if_neg (by omega), if_pos hc])
      refine ⟨_, rfl, _, p_44_19, ?_⟩
      rw [g3, n_succ, hx (by omega)]
      simp only [if_pos] at this
      exact this
    by_cases h1 : sg p = 60
    · rw [if_pos (e1.mpr h1)]; exact yes (Or.inl h1)
    rw [if_neg (fun q => h1 (e1.mp q))]
    by_cases h2 : sg p = 61
    · rw [if_pos (e2.mpr h2)]; exact yes (Or.inr (Or.inl h2))
    rw [if_neg (fun q => h2 (e2.mp q))]
    by_cases h3 : sg p = 62
    · rw [if_pos (e3.mpr h3)]; exact yes (Or.inr (Or.inr h3))
    rw [if_neg (fun q => h3 (e3.mp q))]
    refine Hno (fun q => ?_)
    unfold rgN at q
    split at q
    · omega
    · split at q
      · omega
      · split at q
        · omega
        · split at q
          · omega
          · split at q <;> omega
  · refine xX9_sum_2 ⟨_, rfl, ?_⟩
    rw [if_pos h20]
    have yes : (sg p = 43 ∨ sg p = 45) → xm_Call K sX9_look 9 [.ref 44] (HP A' L F') (xm_pi fun c5 h4 => ∃ f6, xm_fld h4 44 9 19 = some (.int f6) ∧ ∃ h7, xm_put h4 44 9 19 (.int (f6 + (1 : Int32))) = some h7 ∧ xm_Call K sX9_product 9 [.ref 44] h7 (xm_pv fun h8 => xm_Call K sX9_addStep 9 [.ref 44, .int c5, .int (0 : Int32)] h8 (xm_pv fun h9 => xm_L K sX9_sum kX9_sum 2 [some (.ref 44), none] [] h9 P))) := by
      intro hc
      have := Hyes (by unfold rgN; rw [if_neg (by omega), if_neg (by omega), if_neg (by omega), if_pos hc])
      refine m_look (sg := sg) hK hT g1 g2 g3 hp (fun x _ hx => ⟨_, rfl, _, p_44_19, ?_⟩)
      rw [g3, n_succ, hx (by omega)]
      exact this
    refine m_look (sg := sg) hK hT g1 g2 g3 hp (fun x hs hx => ?_)
    have e1 : x = (43 : Int32) ↔ sg p = 43 := hs.eq (ch := 43) (by omega)
    by_cases h1 : sg p = 43
    · rw [if_pos (e1.mpr h1)]; exact yes (Or.inl h1)
    rw [if_neg (fun q => h1 (e1.mp q))]
    refine m_look (sg := sg) hK hT g1 g2 g3 hp (fun x hs hx => ?_)
    have e2 : x = (45 : Int32) ↔ sg p = 45 := hs.eq (ch := 45) (by omega)
    by_cases h2 : sg p = 45
    · rw [if_pos (e2.mpr h2)]; exact yes (Or.inr h2)
    rw [if_neg (fun q => h2 (e2.mp q))]
    refine Hno (fun q => ?_)
    unfold rgN at q
    split at q
    · omega
    · split at q
      · omega
      · split at q
        · omega
        · split at q
          · omega
          · split at q <;> omega
  · refine xX9_product_2 ⟨_, rfl, ?_⟩
    rw [if_pos h20]
    have yes : (sg p = 42 ∨ sg p = 47 ∨ sg p = 37) → xm_Call K sX9_look 9 [.ref 44] (HP A' L F') (xm_pi fun c5 h4 => ∃ f6, xm_fld h4 44 9 19 = some (.int f6) ∧ ∃ h7, xm_put h4 44 9 19 (.int (f6 + (1 : Int32))) = some h7 ∧ xm_Call K sX9_operand 9 [.ref 44] h7 (xm_pv fun h8 => xm_Call K sX9_addStep 9 [.ref 44, .int c5, .int (0 : Int32)] h8 (xm_pv fun h9 => xm_L K sX9_product kX9_product 2 [some (.ref 44), none] [] h9 P))) := by
      intro hc
      have := Hyes (by unfold rgN; rw [if_neg (by omega), if_neg (by omega), if_neg (by omega), if_neg (by omega), if_pos hc])
      refine m_look (sg := sg) hK hT g1 g2 g3 hp (fun x _ hx => ⟨_, rfl, _, p_44_19, ?_⟩)
      rw [g3, n_succ, hx (by omega)]
      exact this
    refine m_look (sg := sg) hK hT g1 g2 g3 hp (fun x hs hx => ?_)
    have e1 : x = (42 : Int32) ↔ sg p = 42 := hs.eq (ch := 42) (by omega)
    by_cases h1 : sg p = 42
    · rw [if_pos (e1.mpr h1)]; exact yes (Or.inl h1)
    rw [if_neg (fun q => h1 (e1.mp q))]
    refine m_look (sg := sg) hK hT g1 g2 g3 hp (fun x hs hx => ?_)
    have e2 : x = (47 : Int32) ↔ sg p = 47 := hs.eq (ch := 47) (by omega)
    by_cases h2 : sg p = 47
    · rw [if_pos (e2.mpr h2)]; exact yes (Or.inr (Or.inl h2))
    rw [if_neg (fun q => h2 (e2.mp q))]
    refine m_look (sg := sg) hK hT g1 g2 g3 hp (fun x hs hx => ?_)
    have e3 : x = (37 : Int32) ↔ sg p = 37 := hs.eq (ch := 37) (by omega)
    by_cases h3 : sg p = 37
    · rw [if_pos (e3.mpr h3)]; exact yes (Or.inr (Or.inr h3))
    rw [if_neg (fun q => h3 (e3.mp q))]
    refine Hno (fun q => ?_)
    unfold rgN at q
    split at q
    · omega
    · split at q
      · omega
      · split at q
        · omega
        · split at q
          · omega
          · split at q <;> omega
def PoM (A F : Nat → Nat → Int32) (L : Nat → Nat → Int64) (t o p0 : Nat) (ts : List Nat) (b : (Nat → Int32) × (Nat → Int32) × (Nat → Int32)) (res : Nat × Option (List Nat)) (gv : xm_H → Prop) : Prop := (∀ l A' F', res.2 = some l → RdM A F t res.1 o (ts ++ l) b A' F' → gv (HP A' L F')) ∧ (∀ A' F' q ln, res.2 = none → RdN A F res.1 q ln b A' F' → q ≤ t → ln + p0 ≤ ts.length + q + 1 → gv (HP A' L F'))
theorem op_aw (h : rgN s ≤ 4) : aOf s < 128 ∧ aOf s = s ∧ wOf s = 0 := by
  have hs : ¬ 1000 ≤ s ∧ ¬ s < 6 ∧ ¬ s = 33 ∧ ¬ s = 126 ∧ s < 128 := by
    unfold rgN at h
    split at h
    · omega
    · split at h
      · omega
      · split at h
        · omega
        · split at h
          · omega
          · split at h <;> omega
  unfold aOf wOf
  rw [if_neg hs.1, if_neg hs.2.1, if_neg hs.2.2.1, if_neg hs.2.2.2.1, if_neg hs.1, if_neg hs.2.1]
  exact ⟨hs.2.2.2.2, rfl, rfl⟩
theorem m_read (hT : TpM A sg t) (ht : F 44 18 = Int32.ofNat t) : ∀ f : Nat,
    (∀ (K r o p : Nat) (res : Nat × Option (List Nat)) (ts : List Nat) (b : (Nat → Int32) × (Nat → Int32) × (Nat → Int32)) (A1 F1 : Nat → Nat → Int32) (gv : xm_H → Prop), pX sg f 0 r o p [] = some res → r ≤ 5 → o ≤ 6 → p ≤ t → 10 * (7 - o) + 10 - r ≤ K → ts.length ≤ p → RdM A F t p o ts b A1 F1 → PoM A F L t o p ts b res gv → xm_Call K (sRg r) 9 [.ref 44] (HP A1 L F1) (xm_pv gv)) ∧
    (∀ (K r o p : Nat) (acc : List Nat) (p0 : Nat) (res : Nat × Option (List Nat)) (ts : List Nat) (b : (Nat → Int32) × (Nat → Int32) × (Nat → Int32)) (A1 F1 : Nat → Nat → Int32) (gv : xm_H → Prop), pX sg f 1 r o p acc = some res → r ≤ 4 → o ≤ 6 → p ≤ t → 10 * (7 - o) + 10 - r ≤ K + 1 → ts.length ≤ p0 → acc.length + p0 ≤ p → RdM A F t p o (ts ++ acc) b A1 F1 → PoM A F L t o p0 ts b res gv → lRg r K (HP A1 L F1) (xm_pv gv)) := by
  have t1 := hT.1
  have t2 := hT.2.1
  intro f
  induction f with
  | zero => exact ⟨fun K r o p res ts b A1 F1 gv hr => absurd hr (by intro q; cases q), fun K r o p acc p0 res ts b A1 F1 gv hr => absurd hr (by intro q; cases q)⟩
  | succ f ih =>
    obtain ⟨ih1, ih3⟩ := ih
    refine ⟨?_, ?_⟩
    · intro K r o p res ts b A1 F1 gv hr h5 ho hp hK hl rd hpo
      obtain ⟨Hok, Hf⟩ := hpo
      by_cases r5 : r < 5
      · have hr' : (if r < 5 then then1 (pX sg f 0 (r + 1) o p []) (fun p1 l => pX sg f 1 r o p1 l) else pO sg (pX sg f) o p) = some res := hr
        rw [if_pos r5] at hr'
        refine eRg (K := 10 * (7 - o) + 9 - r) (by omega) (by omega) ?_
        rcases then1_e hr' with ⟨p1, e1, rfl⟩ | ⟨p1, l1, e1, e2⟩
        · obtain ⟨-, a2, -⟩ := pX_f t2 _ _ _ _ _ _ _ e1 (by omega) (by omega) (by omega)
          have a2' : p1 ≤ t := a2
          exact ih1 _ (r + 1) o p _ ts b A1 F1 _ e1 (by omega) ho hp (by omega) hl rd ⟨fun l A2 F2 q => absurd q (by intro z; cases z), fun A2 F2 q ln _ rn hq hln => lRg_bad (sg := sg) (by omega) (by omega) hT ht rn (by show p1 < _; omega) hq (xm_pv_i (Hf A2 F2 q ln rfl rn hq hln))⟩
        · obtain ⟨a1, a2, a3⟩ := pX_f t2 _ _ _ _ _ _ _ e1 (by omega) (by omega) (by omega)
          obtain ⟨b1, -, -⟩ := (a3 l1 rfl).1 rfl
          have a1' : p ≤ p1 := a1
          have b1' : l1.length ≤ p1 - p := b1
          refine ih1 _ (r + 1) o p _ ts b A1 F1 _ e1 (by omega) ho hp (by omega) hl rd ⟨fun l A2 F2 q r2 => ?_, fun A2 F2 q ln z => absurd z (by intro z; cases z)⟩
          have := Option.some.inj q
          subst this
          exact ih3 _ r o p1 l1 p res ts b A2 F2 gv e2 (by omega) ho a2 (by omega) hl (by omega) r2 ⟨Hok, Hf⟩
      · have e5 : r = 5 := by omega
        subst e5
        have hr' : pO sg (pX sg f) o p = some res := hr
        clear hr
        unfold pO at hr'
        obtain ⟨g1, g2, g3⟩ := rd.get ht
        refine eX9_operand (K := 10 * (7 - o) + 4) (by omega) ⟨_, rfl⟩ (m_look (sg := sg) (by omega) hT g1 g2 g3 hp (fun x hs hx => c_nameOf9 (by omega) hs ?_))
        have e40 : x = (40 : Int32) ↔ sg p = 40 := hs.eq (ch := 40) (by omega)
        have e33 : x = (33 : Int32) ↔ sg p = 33 := hs.eq (ch := 33) (by omega)
        have e45 : x = (45 : Int32) ↔ sg p = 45 := hs.eq (ch := 45) (by omega)
        by_cases hd : isD (sg p)
        · rw [if_pos hd] at hr'
          have hnm : ¬ nmN (sg p) < 6 := by
            unfold nmN
            rw [if_neg (by omega), if_neg (by omega), if_neg (by omega), if_neg (by omega), if_neg (by omega), if_neg (by omega)]
            omega
          rw [if_pos (nmI_neg.mpr hnm), if_neg (fun q => by have := e33.mp q; omega), if_neg (fun q => by have := e45.mp q; omega), if_neg (fun q => by have := e40.mp q; omega)]
          have e := Option.some.inj hr'
          subst e
          obtain ⟨d1, d2, d3⟩ := pDig_4 t2 hd
          refine eX9_figure (K := 3) (by omega) ⟨_, rfl⟩ (m_num (sg := sg) hT ht (by omega) 4 p 0 A1 F1 (by omega) (fun _ => hd) hp (by decide) (by omega) rd (fun A2 F2 hd2 r2 => ?_) (fun A2 F2 hd2 r2 => ?_))
          · exact xm_pv_i (Hok [1000 + (pDig sg 4 p 0).2] A2 F2 (by show (if isD (sg (pDig sg 4 p 0).1) then none else _) = _; rw [if_neg hd2]) r2)
          · exact xm_pv_i (Hf A2 F2 _ _ (by show (if isD (sg (pDig sg 4 p 0).1) then none else _) = none; rw [if_pos hd2]) r2 d2 (by omega))
        rw [if_neg hd] at hr'
        by_cases hn : nmN (sg p) < 6
        · rw [if_neg (fun q => nmI_neg.mp q hn)]
          rw [if_pos hn] at hr'
          have e := Option.some.inj hr'
          subst e
          have en : nmI (sg p) = Int32.ofNat (nmN (sg p)) := if_pos hn
          refine c_nameOf9 (by omega) hs (m_addM (s := nmN (sg p)) (by omega) rd (by omega) (by unfold aOf; rw [if_neg (by omega), if_pos hn]; omega) (by unfold aOf; rw [if_neg (by omega), if_pos hn]; rfl) (by unfold wOf; rw [if_neg (by omega), if_pos hn]; exact en) (fun A2 F2 r2 => ⟨_, rfl, _, p_44_19, ?_⟩))
          rw [r2.2.1, n_succ]
          exact xm_pv_i (Hok [nmN (sg p)] _ _ rfl r2.go)
        rw [if_pos (nmI_neg.mpr hn)]
        rw [if_neg hn] at hr'
        by_cases ho6 : 6 ≤ o
        · have eo : o = 6 := by omega
          rw [if_pos ho6] at hr'
          have e := Option.some.inj hr'
          subst e
          have ops : ∀ {D : xm_H → Prop}, xm_Call (10 * (7 - o) + 4) sX9_opens 9 [.ref 44] (HP A1 L F1) (xm_pi fun c6 h5 => (if c6 = 0 then xm_pv gv none h5 else D h5)) := fun {D} => m_opens (by omega) ho rd (fun q => by omega) (fun _ F2 r2 => by
            rw [if_pos rfl]
            exact xm_pv_i (Hf _ F2 p _ rfl r2 hp (by omega)))
          by_cases h33 : sg p = 33
          · rw [if_pos (e33.mpr h33)]; exact ops
          rw [if_neg (fun q => h33 (e33.mp q))]
          by_cases h45 : sg p = 45
          · rw [if_pos (e45.mpr h45)]; exact ops
          rw [if_neg (fun q => h45 (e45.mp q))]
          by_cases h40 : sg p = 40
          · rw [if_pos (e40.mpr h40)]; exact ops
          rw [if_neg (fun q => h40 (e40.mp q))]
          exact m_fig0 (sg := sg) hT ht (by omega) hp hd (by omega) rd (fun A2 F2 r2 => xm_pv_i (Hf A2 F2 p _ rfl r2 hp (by omega)))
        rw [if_neg ho6] at hr'
        -- a sign before an operand
        have sign : (sg p = 33 ∨ sg p = 45) → xm_Call (10 * (7 - o) + 4) sX9_opens 9 [.ref 44] (HP A1 L F1) (xm_pi fun c6 h5 => (if c6 = 0 then xm_pv gv none h5 else xm_Call (10 * (7 - o) + 4) sX9_operand 9 [.ref 44] h5 (xm_pv fun h7 => ∃ f8, xm_fld h7 44 9 21 = some (.int f8) ∧ ∃ h9, xm_put h7 44 9 21 (.int (f8 - (1 : Int32))) = some h9 ∧ (if x = (33 : Int32) then xm_Call (10 * (7 - o) + 4) sX9_addStep 9 [.ref 44, .int (3 : Int32), .int (0 : Int32)] h9 (xm_pv fun h10 => xm_pv gv none h10) else xm_Call (10 * (7 - o) + 4) sX9_addStep 9 [.ref 44, .int (4 : Int32), .int (0 : Int32)] h9 (xm_pv fun h11 => xm_pv gv none h11))))) := by
          intro h33
          have h40 : ¬ sg p = 40 := by omega
          rw [if_neg h40, if_pos h33] at hr'
          have hpt : p < t := t2.lt (by omega)
          refine m_opens (by omega) ho rd (fun _ F2 r2 => ?_) (fun q => by omega)
          rw [if_neg (by decide)]
          rcases then1_e hr' with ⟨p1, e1, rfl⟩ | ⟨p1, l1, e1, e2⟩
          · refine ih1 _ 5 (o + 1) (p + 1) _ ts b _ _ _ e1 (by omega) (by omega) (by omega) (by omega) (by omega) r2 ⟨fun l A3 F3 z => absurd z (by intro z; cases z), fun A3 F3 q ln _ rn hq hln => ⟨_, rfl, _, p_44_21, ?_⟩⟩
            have rn2 := rn.opn (x := F3 44 21 - 1)
            by_cases e3 : sg p = 33
            · rw [if_pos (e33.mpr e3)]
              exact m_addN (by omega) rn2 (by omega) (fun A4 F4 r4 => xm_pv_i (Hf A4 F4 q (ln + 1) rfl r4 hq (by omega)))
            · rw [if_neg (fun z => e3 (e33.mp z))]
              exact m_addN (by omega) rn2 (by omega) (fun A4 F4 r4 => xm_pv_i (Hf A4 F4 q (ln + 1) rfl r4 hq (by omega)))
          · obtain ⟨a1, a2, a3⟩ := pX_f t2 _ _ _ _ _ _ _ e1 (by omega) (by omega) (by omega)
            obtain ⟨b1, -, -⟩ := (a3 l1 rfl).1 rfl
            have a1' : p + 1 ≤ p1 := a1
            have a2' : p1 ≤ t := a2
            have b1' : l1.length ≤ p1 - (p + 1) := b1
            have e := Option.some.inj e2
            subst e
            refine ih1 _ 5 (o + 1) (p + 1) _ ts b _ _ _ e1 (by omega) (by omega) (by omega) (by omega) (by omega) r2 ⟨fun l A3 F3 z r3 => ?_, fun A3 F3 q ln z => absurd z (by intro z; cases z)⟩
            have := Option.some.inj z
            subst this
            refine ⟨_, rfl, _, p_44_21, ?_⟩
            rw [r3.2.2.2.1, n_pred]
            have r4 := r3.opn (o' := o)
            have len : (ts ++ l1).length = ts.length + l1.length := List.length_append
            have fin : ∀ A4 F4, RdM A F t p1 o (ts ++ l1 ++ [if sg p = 45 then 126 else 33]) b A4 F4 → gv (HP A4 L F4) := fun A4 F4 r5 => Hok (l1 ++ [if sg p = 45 then 126 else 33]) A4 F4 rfl (by rw [← List.append_assoc]; exact r5)
            by_cases e3 : sg p = 33
            · rw [if_pos (e33.mpr e3)]
              refine m_addM (s := 33) (by omega) r4 (by omega) (by decide) rfl rfl (fun A4 F4 r5 => xm_pv_i (fin A4 F4 ?_))
              rw [if_neg (by omega)]; exact r5
            · rw [if_neg (fun z => e3 (e33.mp z))]
              refine m_addM (s := 126) (by omega) r4 (by omega) (by decide) rfl rfl (fun A4 F4 r5 => xm_pv_i (fin A4 F4 ?_))
              rw [if_pos (by omega)]; exact r5
        by_cases h33 : sg p = 33
        · rw [if_pos (e33.mpr h33)]; exact sign (Or.inl h33)
        rw [if_neg (fun q => h33 (e33.mp q))]
        by_cases h45 : sg p = 45
        · rw [if_pos (e45.mpr h45)]; exact sign (Or.inr h45)
        rw [if_neg (fun q => h45 (e45.mp q))]
        by_cases h40 : sg p = 40
        · rw [if_pos (e40.mpr h40)]
          rw [if_pos h40] at hr'
          have hpt : p < t := t2.lt (by omega)
          refine m_opens (by omega) ho rd (fun _ F2 r2 => ?_) (fun q => by omega)
          rw [if_neg (by decide)]
          rcases then1_e hr' with ⟨p1, e1, rfl⟩ | ⟨p1, l1, e1, e2⟩
          · obtain ⟨-, a2, -⟩ := pX_f t2 _ _ _ _ _ _ _ e1 (by omega) (by omega) (by omega)
            have a2' : p1 ≤ t := a2
            refine ih1 _ 0 (o + 1) (p + 1) _ ts b _ _ _ e1 (by omega) (by omega) (by omega) (by omega) (by omega) r2 ⟨fun l A3 F3 z => absurd z (by intro z; cases z), fun A3 F3 q ln _ rn hq hln => ⟨_, rfl, ?_⟩⟩
            rw [if_neg (by rw [rn.2.2.1]; exact xs_nn (by show p1 < _; omega))]
            exact xm_pv_i (Hf A3 F3 q ln rfl rn hq (by omega))
          · obtain ⟨a1, a2, a3⟩ := pX_f t2 _ _ _ _ _ _ _ e1 (by omega) (by omega) (by omega)
            obtain ⟨b1, -, -⟩ := (a3 l1 rfl).1 rfl
            have a1' : p + 1 ≤ p1 := a1
            have a2' : p1 ≤ t := a2
            have b1' : l1.length ≤ p1 - (p + 1) := b1
            refine ih1 _ 0 (o + 1) (p + 1) _ ts b _ _ _ e1 (by omega) (by omega) (by omega) (by omega) (by omega) r2 ⟨fun l A3 F3 z r3 => ?_, fun A3 F3 q ln z => absurd z (by intro z; cases z)⟩
            have := Option.some.inj z
            subst this
            refine ⟨_, rfl, ?_⟩
            rw [r3.2.2.1, if_pos (by decide)]
            obtain ⟨k1, k2, k3⟩ := r3.get ht
            have len : (ts ++ l1).length = ts.length + l1.length := List.length_append
            refine m_look (sg := sg) (by omega) hT k1 k2 k3 a2 (fun x2 hs2 _ => ?_)
            have e41 : x2 = (41 : Int32) ↔ sg p1 = 41 := hs2.eq (ch := 41) (by omega)
            by_cases h41 : sg p1 = 41
            · rw [if_pos (e41.mpr h41)]
              rw [if_pos h41] at e2
              have e := Option.some.inj e2
              subst e
              refine ⟨_, rfl, _, p_44_19, _, rfl, _, p_44_21, ?_⟩
              have r4 := r3.go
              rw [k3, n_succ]
              rw [r4.2.2.2.1, n_pred]
              exact xm_pv_i (Hok l1 _ _ rfl (r4.opn (o' := o)))
            · rw [if_neg (fun z => h41 (e41.mp z))]
              rw [if_neg h41] at e2
              have e := Option.some.inj e2
              subst e
              exact m_wrong (by omega) r3 (fun F4 r4 => xm_pv_i (Hf _ F4 p1 _ rfl r4 a2 (by omega)))
        rw [if_neg (fun q => h40 (e40.mp q))]
        rw [if_neg h40, if_neg (by omega)] at hr'
        have e := Option.some.inj hr'
        subst e
        exact m_fig0 (sg := sg) hT ht (by omega) hp hd (by omega) rd (fun A2 F2 r2 => xm_pv_i (Hf A2 F2 p _ rfl r2 hp (by omega)))
    · intro K r o p acc p0 res ts b A1 F1 gv hr r4 ho hp hK hl hac rd hpo
      obtain ⟨Hok, Hf⟩ := hpo
      have hr' : (if rgN (sg p) = r then then1 (pX sg f 0 (r + 1) o (p + 1) []) (fun p1 l => if r = 2 then some (p1, some (acc ++ l ++ [sg p])) else pX sg f 1 r o p1 (acc ++ l ++ [sg p])) else some (p, some acc)) = some res := hr
      have len0 : (ts ++ acc).length = ts.length + acc.length := List.length_append
      refine lRg_ok (sg := sg) r4 (by omega) hT ht rd hp (fun hg => ?_) (fun hg => ?_)
      · rw [if_pos hg] at hr'
        have hpt : p < t := t2.lt (rg_le (by omega))
        obtain ⟨w1, w2, w3⟩ := op_aw (s := sg p) (by omega)
        rcases then1_e hr' with ⟨p1, e1, rfl⟩ | ⟨p1, l1, e1, e2⟩
        · obtain ⟨-, a2, -⟩ := pX_f t2 _ _ _ _ _ _ _ e1 (by omega) (by omega) (by omega)
          have a2' : p1 ≤ t := a2
          refine ih1 _ (r + 1) o (p + 1) _ (ts ++ acc) b _ _ _ e1 (by omega) ho (by omega) (by omega) (by omega) rd.go ⟨fun l A3 F3 z => absurd z (by intro z; cases z), fun A3 F3 q ln _ rn hq hln => m_addN (by omega) rn (by omega) (fun A4 F4 rn2 => ?_)⟩
          have fin := Hf A4 F4 q (ln + 1) rfl rn2 hq (by omega)
          by_cases h2 : r = 2
          · rw [if_pos h2]; exact xm_pv_i fin
          · rw [if_neg h2]; exact lRg_bad (sg := sg) r4 (by omega) hT ht rn2 (by show p1 < _; omega) hq (xm_pv_i fin)
        · obtain ⟨a1, a2, a3⟩ := pX_f t2 _ _ _ _ _ _ _ e1 (by omega) (by omega) (by omega)
          obtain ⟨b1, -, -⟩ := (a3 l1 rfl).1 rfl
          have a1' : p + 1 ≤ p1 := a1
          have a2' : p1 ≤ t := a2
          have b1' : l1.length ≤ p1 - (p + 1) := b1
          refine ih1 _ (r + 1) o (p + 1) _ (ts ++ acc) b _ _ _ e1 (by omega) ho (by omega) (by omega) (by omega) rd.go ⟨fun l A3 F3 z r3 => ?_, fun A3 F3 q ln z => absurd z (by intro z; cases z)⟩
          have := Option.some.inj z
          subst this
          have len1 : (ts ++ acc ++ l1).length = ts.length + acc.length + l1.length := by rw [List.length_append, len0]
          refine m_addM (s := sg p) (by omega) r3 (by omega) w1 (by rw [w2]) (by rw [w3]; rfl) (fun A4 F4 r5 => ?_)
          have r6 : RdM A F t p1 o (ts ++ (acc ++ l1 ++ [sg p])) b A4 F4 := by rw [← List.append_assoc, ← List.append_assoc]; exact r5
          by_cases h2 : r = 2
          · rw [if_pos h2]
            rw [if_pos h2] at e2
            have e := Option.some.inj e2
            subst e
            exact xm_pv_i (Hok _ A4 F4 rfl r6)
          · rw [if_neg h2]
            rw [if_neg h2] at e2
            have lacc : (acc ++ l1 ++ [sg p]).length = acc.length + l1.length + 1 := by rw [List.length_append, List.length_append]; rfl
            exact ih3 _ r o p1 _ p0 res ts b A4 F4 gv e2 r4 ho a2 hK hl (by omega) r6 ⟨Hok, Hf⟩
      · rw [if_neg hg] at hr'
        have e := Option.some.inj hr'
        subst e
        exact xm_pv_i (Hok acc A1 F1 rfl rd)
end RDN
