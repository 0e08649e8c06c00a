section TXA
variable {A : Nat → Nat → Int32} {L : Nat → Nat → Int64} {F : Nat → Nat → Int32} {A' F' : Nat → Nat → Int32} {gv : xm_H → Prop} {g : Int32 → xm_H → Prop} {P : Option Value → xm_H → Prop} {sg : Nat → Nat} {K K' t p r o m v s n k j f ch q ln : Nat} {x x1 x2 x3 x4 y z : Int32} {h : xm_H} {ts acc l : List Nat} {b b0 : (Nat → Int32) × (Nat → Int32) × (Nat → Int32)}
def GdL (ln : List Nat × Option (List Nat)) : Prop := (Gd ln.1 ∧ 0 < ln.1.length) ∧ ∀ l2, ln.2 = some l2 → Gd l2
theorem lnR_gd (h : Tp sg t) (ht : t ≤ 120) (hp : p ≤ t) : (p ≤ (lnR sg p).1 ∧ (lnR sg p).1 ≤ t) ∧ ∀ ln, (lnR sg p).2 = some ln → GdL ln := by
  obtain ⟨f1, f2, f3⟩ := eR_f h ht hp
  rcases lnR_e h ht hp with ⟨p1, e1, e2⟩ | ⟨p1, l1, e1, h63, e2⟩ | ⟨p1, l1, p2, e1, h63, e3, e2⟩ | ⟨p1, l1, p2, l2, e1, h63, e3, e2⟩
  · rw [e2]; rw [e1] at f1 f2; exact ⟨⟨f1, f2⟩, fun ln z => absurd z (by intro z; cases z)⟩
  · rw [e2]; rw [e1] at f1 f2 f3
    refine ⟨⟨f1, f2⟩, fun ln z => ?_⟩
    have := Option.some.inj z
    subst this
    obtain ⟨c1, c2, c3⟩ := f3 l1 rfl
    exact ⟨⟨c3, c2⟩, fun l2 z => absurd z (by intro z; cases z)⟩
  · rw [e2]; rw [e1] at f1 f2 f3
    have f1' : p ≤ p1 := f1
    have hlt : p1 < t := h.lt (by omega)
    obtain ⟨g1, g2, g3⟩ := eR_f h ht (show p1 + 1 ≤ t by omega)
    rw [e3] at g1 g2
    have g1' : p1 + 1 ≤ p2 := g1
    exact ⟨⟨by show p ≤ p2; omega, g2⟩, fun ln z => absurd z (by intro z; cases z)⟩
  · rw [e2]; rw [e1] at f1 f2 f3
    have f1' : p ≤ p1 := f1
    have hlt : p1 < t := h.lt (by omega)
    obtain ⟨g1, g2, g3⟩ := eR_f h ht (show p1 + 1 ≤ t by omega)
    rw [e3] at g1 g2 g3
    have g1' : p1 + 1 ≤ p2 := g1
    refine ⟨⟨by show p ≤ p2; omega, g2⟩, fun ln z => ?_⟩
    have := Option.some.inj z
    subst this
    obtain ⟨c1, c2, c3⟩ := f3 l1 rfl
    refine ⟨⟨c3, c2⟩, fun l3 z => ?_⟩
    have := Option.some.inj z
    subst this
    exact (g3 l2 rfl).2.2
theorem txR_s (f p : Nat) (acc : List (List Nat × Option (List Nat))) : ((lnR sg p).2 = none → txR sg t (f + 1) p acc = ((lnR sg p).1, none)) ∧ ∀ ln, (lnR sg p).2 = some ln → txR sg t (f + 1) p acc = if sg (lnR sg p).1 = 59 then txR sg t f ((lnR sg p).1 + 1) (acc ++ [ln]) else if (lnR sg p).1 < t then ((lnR sg p).1, none) else ((lnR sg p).1, some (acc ++ [ln])) := by
  have ex : txR sg t (f + 1) p acc = match lnR sg p with
    | (p1, none) => (p1, none)
    | (p1, some ln) => if sg p1 = 59 then txR sg t f (p1 + 1) (acc ++ [ln]) else if p1 < t then (p1, none) else (p1, some (acc ++ [ln])) := rfl
  rw [ex]
  rcases lnR sg p with ⟨p1, q⟩
  cases q with
  | none => exact ⟨fun _ => rfl, fun ln z => absurd z (by intro z; cases z)⟩
  | some l => exact ⟨fun z => absurd z (by intro z; cases z), fun ln z => by have := Option.some.inj z; subst this; rfl⟩
theorem txR_gd (h : Tp sg t) (ht : t ≤ 120) : ∀ (f p : Nat) (acc : List (List Nat × Option (List Nat))), p ≤ t → (∀ ln ∈ acc, GdL ln) → ∀ ls, (txR sg t f p acc).2 = some ls → ls ≠ [] ∧ ∀ ln ∈ ls, GdL ln
  | 0, p, acc, _, _, ls, z => absurd z (by intro z; cases z)
  | f + 1, p, acc, hp, ha, ls, z => by
    obtain ⟨⟨g1, g2⟩, g3⟩ := lnR_gd h ht hp
    obtain ⟨s1, s2⟩ := txR_s (sg := sg) (t := t) f p acc
    rcases e : (lnR sg p).2 with _ | ln
    · rw [s1 e] at z; cases z
    · rw [s2 ln e] at z
      have hg : ∀ q ∈ acc ++ [ln], GdL q := by
        intro q hq
        rcases List.mem_append.mp hq with hq | hq
        · exact ha q hq
        · rw [List.mem_singleton.mp hq]; exact g3 ln e
      by_cases h59 : sg (lnR sg p).1 = 59
      · rw [if_pos h59] at z
        exact txR_gd h ht f _ _ (h.lt (by omega)) hg ls z
      · rw [if_neg h59] at z
        split at z
        · cases z
        · have := Option.some.inj z
          subst this
          exact ⟨by simp, hg⟩
def fo1 (st : List Nat × ((Nat → Int32) × (Nat → Int32) × (Nat → Int32)) × Nat) (ln : List Nat × Option (List Nat)) : List Nat × ((Nat → Int32) × (Nat → Int32) × (Nat → Int32)) × Nat := (st.1 ++ lnTs ln, bLn st.2.1 st.2.2 st.1.length ln, st.2.2 + 1)
def foM (b0 : (Nat → Int32) × (Nat → Int32) × (Nat → Int32)) (ls : List (List Nat × Option (List Nat))) : List Nat × ((Nat → Int32) × (Nat → Int32) × (Nat → Int32)) × Nat := ls.foldl fo1 ([], (upd b0.1 1 0, b0.2.1, b0.2.2), 0)
theorem foM_app {ls : List (List Nat × Option (List Nat))} {l : List Nat × Option (List Nat)} : foM b0 (ls ++ [l]) = fo1 (foM b0 ls) l := by unfold foM; rw [List.foldl_append]; rfl
theorem m_text (hT : TpM A sg t) (ht : F 44 18 = Int32.ofNat t) (hK : 82 ≤ K) : ∀ (f p : Nat) (acc : List (List Nat × Option (List Nat))) (A1 F1 : Nat → Nat → Int32) (P : Option Value → xm_H → Prop), p ≤ t → t + 1 - p ≤ f → 2 * (foM b0 acc).2.2 ≤ p → (foM b0 acc).1.length ≤ p → (foM b0 acc).2.1.1 1 = Int32.ofNat (foM b0 acc).2.2 → bLo b0 (foM b0 acc).2.1 → RdM A F t p 0 (foM b0 acc).1 (foM b0 acc).2.1 A1 F1 → (∀ ls A' F', (txR sg t f p acc).2 = some ls → RdM A F t (txR sg t f p acc).1 0 (foM b0 ls).1 (foM b0 ls).2.1 A' F' → (foM b0 ls).1.length ≤ 120 → (foM b0 ls).2.2 ≤ 61 → (foM b0 ls).2.1.1 1 = Int32.ofNat (foM b0 ls).2.2 → xm_L K sX9_readText kX9_readText 56 [some (.ref 44), some (.int 0), some (.int 0)] [] (HP A' L (va_up F' 44 (va_up (F' 44) 18 0))) P) → (∀ A' F' q ln b', (txR sg t f p acc).2 = none → RdN A F (txR sg t f p acc).1 q ln b' A' F' → bLo b0 b' → (txR sg t f p acc).1 ≤ t → P (some (.int (Int32.ofNat (txR sg t f p acc).1))) (HP A' L (va_up F' 44 (va_up (F' 44) 18 0)))) → xm_Call K sX9_line 9 [.ref 44] (HP A1 L F1) (xm_pv fun h7 => xm_L K sX9_readText kX9_readText 19 [some (.ref 44), some (.int 0), none] [] h7 P) := by
  have t1 := hT.1
  have t2 := hT.2.1
  intro f
  induction f with
  | zero => intro p acc A1 F1 P hp hf; omega
  | succ f ih =>
    intro p acc A1 F1 P hp hf hm hl hb hlo rd Hok Hf
    obtain ⟨s1, s2⟩ := txR_s (sg := sg) (t := t) f p acc
    have bad : ∀ (A2 F2 : Nat → Nat → Int32) (p1 : Nat), F2 44 20 = Int32.ofNat p1 → p1 ≤ 120 → P (some (.int (Int32.ofNat p1))) (HP A2 L (va_up F2 44 (va_up (F2 44) 18 0))) → xm_L K sX9_readText kX9_readText 19 [some (.ref 44), some (.int 0), none] [] (HP A2 L F2) P := by
      intro A2 F2 p1 e20 h120 H
      have n20 : ¬ F2 44 20 < 0 := by rw [e20]; exact xs_nn (by omega)
      refine xX9_readText_19 ⟨_, rfl, ?_⟩
      rw [if_neg n20]
      refine ⟨_, rfl, ?_⟩
      rw [if_neg n20]
      refine ⟨_, p_44_18, _, rfl, ?_⟩
      have e20' : va_up F2 44 (va_up (F2 44) 18 0) 44 20 = Int32.ofNat p1 := by rw [u_eq, u_ne (by omega)]; exact e20
      rw [e20', if_neg (xs_nn (by omega))]
      refine ⟨_, rfl, ?_⟩
      rw [e20']; exact H
    refine m_line (sg := sg) hT ht (by omega) hp hl (by omega) hb rd (fun ln A2 F2 z r2 h1 h2 h3 => ?_) (fun A2 F2 q n2 b2 z rn hq h2 hlo2 => ?_)
    · have et := s2 ln z
      rw [et] at Hok Hf
      obtain ⟨k1, k2, k3⟩ := r2.get ht
      have e20 : F2 44 20 < 0 := by rw [r2.2.2.1]; decide
      have ef : foM b0 (acc ++ [ln]) = ((foM b0 acc).1 ++ lnTs ln, bLn (foM b0 acc).2.1 (foM b0 acc).2.2 (foM b0 acc).1.length ln, (foM b0 acc).2.2 + 1) := foM_app
      have hb2 : (foM b0 (acc ++ [ln])).2.1.1 1 = Int32.ofNat (foM b0 (acc ++ [ln])).2.2 := by rw [ef]; show upd (foM b0 acc).2.1.1 1 (Int32.ofNat ((foM b0 acc).2.2 + 1)) 1 = _; exact p_eq
      have hlo3 : bLo b0 (foM b0 (acc ++ [ln])).2.1 := by rw [ef]; exact hlo.tr bLn_lo
      have r2' : RdM A F t (lnR sg p).1 0 (foM b0 (acc ++ [ln])).1 (foM b0 (acc ++ [ln])).2.1 A2 F2 := by rw [ef]; exact r2
      have hl2 : (foM b0 (acc ++ [ln])).1.length ≤ (lnR sg p).1 := by rw [ef]; exact h3
      have hm2 : (foM b0 (acc ++ [ln])).2.2 = (foM b0 acc).2.2 + 1 := by rw [ef]
      refine xX9_readText_19 ⟨_, rfl, ?_⟩
      rw [if_pos e20]
      refine m_look (sg := sg) (by omega) hT k1 k2 k3 h2 (fun x hs _ => ?_)
      have e59 : x = (59 : Int32) ↔ sg (lnR sg p).1 = 59 := hs.eq (ch := 59) (by omega)
      by_cases h59 : sg (lnR sg p).1 = 59
      · rw [if_pos (e59.mpr h59)]
        rw [if_pos h59] at Hok Hf
        have hpt : (lnR sg p).1 < t := t2.lt (by omega)
        refine ⟨_, rfl, _, p_44_19, ?_⟩
        rw [k3, n_succ]
        exact ih _ _ _ _ P (by omega) (by omega) (by omega) (by omega) hb2 hlo3 r2'.go Hok Hf
      · rw [if_neg (fun z => h59 (e59.mp z))]
        rw [if_neg h59] at Hok Hf
        refine ⟨_, rfl, ?_⟩
        rw [if_pos e20]
        refine ⟨_, rfl, _, rfl, ?_⟩
        rw [k2, k3]
        by_cases hpt : (lnR sg p).1 < t
        · rw [if_pos ((n_lt (by omega) (by omega)).mpr hpt)]
          rw [if_pos hpt] at Hf
          refine m_wrong (by omega) r2' (fun F3 r3 => ⟨_, p_44_18, _, rfl, ?_⟩)
          have e20' : va_up F3 44 (va_up (F3 44) 18 0) 44 20 = Int32.ofNat (lnR sg p).1 := by rw [u_eq, u_ne (by omega)]; exact r3.2.2.1
          rw [e20', if_neg (xs_nn (by omega))]
          refine ⟨_, rfl, ?_⟩
          rw [e20']; exact Hf _ _ _ _ _ rfl r3 hlo3 h2
        · rw [if_neg (n_ge (by omega) (by omega) (by omega))]
          rw [if_neg hpt] at Hok
          refine ⟨_, p_44_18, _, rfl, ?_⟩
          rw [if_pos (by rw [u_eq, u_ne (by omega)]; exact e20)]
          exact Hok _ A2 F2 rfl r2' (by omega) (by omega) hb2
    · have et := s1 z
      rw [et] at Hf
      exact bad A2 F2 (lnR sg p).1 rn.2.2.1 (by omega) (Hf A2 F2 q n2 b2 rfl rn (hlo.tr hlo2) h2)
end TXA
