section PRS
variable {sg : Nat → Nat} {t p r o m v f md : Nat} {acc l l1 l2 : List Nat}
/-! the reading of a text, by itself: where it ends, and the signs, or none: a fault there -/
abbrev isD (x : Nat) : Prop := 48 ≤ x ∧ x ≤ 57
def nmN (x : Nat) : Nat := if x = 107 then 0 else if x = 119 then 1 else if x = 97 then 2 else if x = 111 then 3 else if x = 115 then 4 else if x = 103 then 5 else 6
def rgN (x : Nat) : Nat := if x = 124 then 0 else if x = 38 then 1 else if x = 60 ∨ x = 61 ∨ x = 62 then 2 else if x = 43 ∨ x = 45 then 3 else if x = 42 ∨ x = 47 ∨ x = 37 then 4 else 9
def pDig (sg : Nat → Nat) : Nat → Nat → Nat → Nat × Nat
  | 0, p, v => (p, v)
  | m + 1, p, v => if isD (sg p) then pDig sg m (p + 1) (10 * v + (sg p - 48)) else (p, v)
def then1 (x : Option (Nat × Option (List Nat))) (k : Nat → List Nat → Option (Nat × Option (List Nat))) : Option (Nat × Option (List Nat)) := match x with
  | none => none
  | some (p1, none) => some (p1, none)
  | some (p1, some l) => k p1 l
theorem then1_e {x : Option (Nat × Option (List Nat))} {k : Nat → List Nat → Option (Nat × Option (List Nat))} {res : Nat × Option (List Nat)} (h : then1 x k = some res) : (∃ p1, x = some (p1, none) ∧ res = (p1, none)) ∨ ∃ p1 l, x = some (p1, some l) ∧ k p1 l = some res := by
  match x, h with
  | none, h => exact absurd h (by intro q; cases q)
  | some (p1, none), h => exact Or.inl ⟨p1, rfl, (Option.some.inj h).symm⟩
  | some (p1, some l), h => exact Or.inr ⟨p1, l, rfl, h⟩
def pO (sg : Nat → Nat) (rec : Nat → Nat → Nat → Nat → List Nat → Option (Nat × Option (List Nat))) (o p : Nat) : Option (Nat × Option (List Nat)) :=
  if isD (sg p) then some ((pDig sg 4 p 0).1, if isD (sg (pDig sg 4 p 0).1) then none else some [1000 + (pDig sg 4 p 0).2])
  else if nmN (sg p) < 6 then some (p + 1, some [nmN (sg p)])
  else if 6 ≤ o then some (p, none)
  else if sg p = 40 then then1 (rec 0 0 (o + 1) (p + 1) []) (fun p1 l => if sg p1 = 41 then some (p1 + 1, some l) else some (p1, none))
  else if sg p = 33 ∨ sg p = 45 then then1 (rec 0 5 (o + 1) (p + 1) []) (fun p1 l => some (p1, some (l ++ [if sg p = 45 then 126 else 33])))
  else some (p, none)
def pB (sg : Nat → Nat) (rec : Nat → Nat → Nat → Nat → List Nat → Option (Nat × Option (List Nat))) (md r o p : Nat) (acc : List Nat) : Option (Nat × Option (List Nat)) :=
  if md = 0 then (if r < 5 then then1 (rec 0 (r + 1) o p []) (fun p1 l => rec 1 r o p1 l) else pO sg rec o p)
  else if rgN (sg p) = r then then1 (rec 0 (r + 1) o (p + 1) []) (fun p1 l => if r = 2 then some (p1, some (acc ++ l ++ [sg p])) else rec 1 r o p1 (acc ++ l ++ [sg p]))
  else some (p, some acc)
def pX (sg : Nat → Nat) : Nat → Nat → Nat → Nat → Nat → List Nat → Option (Nat × Option (List Nat))
  | 0, _, _, _, _, _ => none
  | f + 1, md, r, o, p, acc => pB sg (pX sg f) md r o p acc
/-- the letters end at t -/
def Tp (sg : Nat → Nat) (t : Nat) : Prop := ∀ k, (k < t → sg k < 256) ∧ (t ≤ k → sg k = 999)
theorem Tp.lt (h : Tp sg t) (hp : sg p ≠ 999) : p < t := by
  by_cases q : p < t
  · exact q
  · exact absurd ((h p).2 (by omega)) hp
theorem nm_lt (h : nmN p < 6) : p ≠ 999 := fun q => by subst q; exact absurd h (by decide)
theorem rg_le (h : rgN p ≤ 4) : p ≠ 999 := fun q => by subst q; exact absurd h (by decide)
theorem pDig_f (h : Tp sg t) : ∀ m p v, p ≤ t → p ≤ (pDig sg m p v).1 ∧ (pDig sg m p v).1 ≤ t ∧ (pDig sg m p v).2 + 1 ≤ (v + 1) * 10 ^ m
  | 0, p, v, hp => ⟨Nat.le_refl _, hp, by show v + 1 ≤ (v + 1) * 1; omega⟩
  | m + 1, p, v, hp => by
    show p ≤ (if isD (sg p) then _ else _ : Nat × Nat).1 ∧ (if isD (sg p) then _ else _ : Nat × Nat).1 ≤ t ∧ (if isD (sg p) then _ else _ : Nat × Nat).2 + 1 ≤ _
    by_cases hd : isD (sg p)
    · rw [if_pos hd]
      have := pDig_f h m (p + 1) (10 * v + (sg p - 48)) (h.lt (by omega))
      refine ⟨by omega, this.2.1, Nat.le_trans this.2.2 ?_⟩
      rw [Nat.pow_succ, Nat.mul_comm (10 ^ m) 10, ← Nat.mul_assoc]
      exact Nat.mul_le_mul_right _ (by omega)
    · rw [if_neg hd]
      refine ⟨Nat.le_refl _, hp, ?_⟩
      have : 0 < 10 ^ (m + 1) := Nat.pow_pos (by omega)
      show v + 1 ≤ (v + 1) * 10 ^ (m + 1)
      exact Nat.le_mul_of_pos_right _ this
theorem pDig_4 (h : Tp sg t) (hd : isD (sg p)) : p < (pDig sg 4 p 0).1 ∧ (pDig sg 4 p 0).1 ≤ t ∧ (pDig sg 4 p 0).2 < 10000 := by
  have hp : p < t := h.lt (by omega)
  have h1 := pDig_f h 4 p 0 (by omega)
  have e : pDig sg 4 p 0 = pDig sg 3 (p + 1) (10 * 0 + (sg p - 48)) := by show (if isD (sg p) then _ else _) = _; rw [if_pos hd]
  have h2 := pDig_f h 3 (p + 1) (10 * 0 + (sg p - 48)) (by omega)
  rw [← e] at h2
  refine ⟨by omega, h1.2.1, ?_⟩
  have := h1.2.2
  omega
/-! heights -/
def ht1 (s h : Nat) : Option Nat := if 1000 ≤ s ∨ s < 6 then some (h + 1) else if s = 33 ∨ s = 126 then (if 1 ≤ h then some h else none) else (if 2 ≤ h then some (h - 1) else none)
def htS : List Nat → Nat → Option Nat
  | [], h => some h
  | s :: l, h => (ht1 s h).bind (htS l)
theorem ht_app : ∀ (l1 l2 : List Nat) (h : Nat), htS (l1 ++ l2) h = (htS l1 h).bind (htS l2)
  | [], l2, h => rfl
  | s :: l1, l2, h => by
    show (ht1 s h).bind (htS (l1 ++ l2)) = ((ht1 s h).bind (htS l1)).bind (htS l2)
    cases ht1 s h with
    | none => rfl
    | some k => exact ht_app l1 l2 k
def okTk (s : Nat) : Prop := (1000 ≤ s ∧ s < 11000) ∨ s < 6 ∨ s = 33 ∨ s = 126 ∨ rgN s ≤ 4
def Gd (l : List Nat) : Prop := (∀ h, htS l h = some (h + 1)) ∧ ∀ s ∈ l, okTk s
theorem Gd.one {s : Nat} (h : (1000 ≤ s ∧ s < 11000) ∨ s < 6) : Gd [s] := by
  refine ⟨fun k => ?_, fun q hq => ?_⟩
  · show (ht1 s k).bind (htS []) = _
    unfold ht1; rw [if_pos (by omega)]; rfl
  · simp at hq; subst hq; exact h.elim Or.inl (fun z => Or.inr (Or.inl z))
theorem Gd.un {s : Nat} (h : Gd l) (hs : s = 33 ∨ s = 126) : Gd (l ++ [s]) := by
  refine ⟨fun k => ?_, fun q hq => ?_⟩
  · rw [ht_app, h.1 k]
    show (ht1 s (k + 1)).bind (htS []) = _
    unfold ht1; rw [if_neg (by omega), if_pos hs, if_pos (by omega)]; rfl
  · simp at hq
    rcases hq with hq | hq
    · exact h.2 q hq
    · subst hq; exact hs.elim (fun z => Or.inr (Or.inr (Or.inl z))) (fun z => Or.inr (Or.inr (Or.inr (Or.inl z))))
theorem Gd.bi {s : Nat} (h1 : Gd l1) (h2 : Gd l2) (hs : rgN s ≤ 4) : Gd (l1 ++ l2 ++ [s]) := by
  have hs2 : ¬ (1000 ≤ s ∨ s < 6) ∧ ¬ (s = 33 ∨ s = 126) ∧ s < 128 := by
    unfold rgN at hs
    split at hs
    · omega
    · split at hs
      · omega
      · split at hs
        · omega
        · split at hs
          · omega
          · split at hs <;> omega
  refine ⟨fun k => ?_, fun q hq => ?_⟩
  · rw [ht_app, ht_app, h1.1 k]
    show ((htS l2 (k + 1))).bind (htS [s]) = _
    rw [h2.1 (k + 1)]
    show (ht1 s (k + 1 + 1)).bind (htS []) = _
    unfold ht1; rw [if_neg hs2.1, if_neg hs2.2.1, if_pos (by omega)]; rfl
  · simp at hq
    rcases hq with hq | hq | hq
    · exact h1.2 q hq
    · exact h2.2 q hq
    · subst hq; exact Or.inr (Or.inr (Or.inr (Or.inr hs)))
/-! what is so of every reading -/
theorem pX_f (h : Tp sg t) : ∀ (f md r o p : Nat) (acc : List Nat) (res : Nat × Option (List Nat)), pX sg f md r o p acc = some res → r ≤ 5 → (md ≠ 0 → r ≤ 4) → p ≤ t → p ≤ res.1 ∧ res.1 ≤ t ∧ ∀ l, res.2 = some l → (md = 0 → l.length ≤ res.1 - p ∧ 0 < l.length ∧ Gd l) ∧ (md ≠ 0 → l.length + p ≤ acc.length + res.1 ∧ acc.length ≤ l.length ∧ (Gd acc → Gd l)) := by
  intro f
  induction f with
  | zero => intro md r o p acc res hr; exact absurd hr (by intro q; cases q)
  | succ f ih =>
    intro md r o p acc res hr h5 h4 hp
    have hr' : pB sg (pX sg f) md r o p acc = some res := hr
    clear hr
    unfold pB at hr'
    by_cases hm : md = 0
    · rw [if_pos hm] at hr'
      by_cases r5 : r < 5
      · rw [if_pos r5] at hr'
        rcases then1_e hr' with ⟨p1, e1, rfl⟩ | ⟨p1, l1, e1, e2⟩
        · have := ih _ _ _ _ _ _ e1 (by omega) (by omega) hp
          exact ⟨this.1, this.2.1, fun l hl => absurd hl (by intro q; cases q)⟩
        · obtain ⟨a1, a2, a3⟩ := ih _ _ _ _ _ _ e1 (by omega) (by omega) hp
          obtain ⟨b1, b2, b3⟩ := (a3 l1 rfl).1 rfl
          obtain ⟨c1, c2, c3⟩ := ih _ _ _ _ _ _ e2 (by omega) (by omega) a2
          refine ⟨Nat.le_trans a1 c1, c2, fun l hl => ⟨fun _ => ?_, fun q => absurd hm q⟩⟩
          obtain ⟨d1, d2, d3⟩ := (c3 l hl).2 (by omega)
          have a1' : p ≤ p1 := a1
          have c1' : p1 ≤ res.1 := c1
          have b1' : l1.length ≤ p1 - p := b1
          exact ⟨by omega, by omega, d3 b3⟩
      · rw [if_neg r5] at hr'
        unfold pO at hr'
        by_cases hd : isD (sg p)
        · rw [if_pos hd] at hr'
          have e := Option.some.inj hr'
          subst e
          obtain ⟨d1, d2, d3⟩ := pDig_4 h hd
          refine ⟨by show p ≤ (pDig sg 4 p 0).1; omega, d2, fun l hl => ⟨fun _ => ?_, fun q => absurd hm q⟩⟩
          have hl' : (if isD (sg (pDig sg 4 p 0).1) then none else some [1000 + (pDig sg 4 p 0).2]) = some l := hl
          split at hl'
          · cases hl'
          · have := Option.some.inj hl'
            subst this
            exact ⟨by show 1 ≤ (pDig sg 4 p 0).1 - p; omega, by show 0 < 1; omega, Gd.one (by omega)⟩
        rw [if_neg hd] at hr'
        by_cases hn : nmN (sg p) < 6
        · rw [if_pos hn] at hr'
          have e := Option.some.inj hr'
          subst e
          have := h.lt (nm_lt hn)
          refine ⟨by show p ≤ p + 1; omega, by show p + 1 ≤ t; omega, fun l hl => ⟨fun _ => ?_, fun q => absurd hm q⟩⟩
          have := Option.some.inj hl
          subst this
          exact ⟨by show 1 ≤ p + 1 - p; omega, by show 0 < 1; omega, Gd.one (by omega)⟩
        rw [if_neg hn] at hr'
        by_cases ho : 6 ≤ o
        · rw [if_pos ho] at hr'
          have e := Option.some.inj hr'
          subst e
          exact ⟨Nat.le_refl _, hp, fun l hl => absurd hl (by intro q; cases q)⟩
        rw [if_neg ho] at hr'
        by_cases h40 : sg p = 40
        · rw [if_pos h40] at hr'
          have hpt : p < t := h.lt (by omega)
          rcases then1_e hr' with ⟨p1, e1, rfl⟩ | ⟨p1, l1, e1, e2⟩
          · have := ih _ _ _ _ _ _ e1 (by omega) (by omega) (by omega)
            have t1 : p + 1 ≤ p1 := this.1
            exact ⟨by show p ≤ p1; omega, this.2.1, fun l hl => absurd hl (by intro q; cases q)⟩
          · obtain ⟨a1, a2, a3⟩ := ih _ _ _ _ _ _ e1 (by omega) (by omega) (by omega)
            obtain ⟨b1, b2, b3⟩ := (a3 l1 rfl).1 rfl
            have a1' : p + 1 ≤ p1 := a1
            have b1' : l1.length ≤ p1 - (p + 1) := b1
            split at e2
            · next h41 =>
              have e := Option.some.inj e2
              subst e
              have : p1 < t := h.lt (by omega)
              refine ⟨by show p ≤ p1 + 1; omega, by show p1 + 1 ≤ t; omega, fun l hl => ⟨fun _ => ?_, fun q => absurd hm q⟩⟩
              have := Option.some.inj hl
              subst this
              exact ⟨by show l1.length ≤ p1 + 1 - p; omega, b2, b3⟩
            · have e := Option.some.inj e2
              subst e
              exact ⟨by show p ≤ p1; omega, a2, fun l hl => absurd hl (by intro q; cases q)⟩
        rw [if_neg h40] at hr'
        by_cases h33 : sg p = 33 ∨ sg p = 45
        · rw [if_pos h33] at hr'
          have hpt : p < t := h.lt (by omega)
          rcases then1_e hr' with ⟨p1, e1, rfl⟩ | ⟨p1, l1, e1, e2⟩
          · have := ih _ _ _ _ _ _ e1 (by omega) (by omega) (by omega)
            have t1 : p + 1 ≤ p1 := this.1
            exact ⟨by show p ≤ p1; omega, this.2.1, fun l hl => absurd hl (by intro q; cases q)⟩
          · obtain ⟨a1, a2, a3⟩ := ih _ _ _ _ _ _ e1 (by omega) (by omega) (by omega)
            obtain ⟨b1, b2, b3⟩ := (a3 l1 rfl).1 rfl
            have a1' : p + 1 ≤ p1 := a1
            have b1' : l1.length ≤ p1 - (p + 1) := b1
            have e := Option.some.inj e2
            subst e
            refine ⟨by show p ≤ p1; omega, a2, fun l hl => ⟨fun _ => ?_, fun q => absurd hm q⟩⟩
            have := Option.some.inj hl
            subst this
            refine ⟨?_, ?_, Gd.un b3 (by split <;> omega)⟩
            · rw [List.length_append]; show l1.length + 1 ≤ p1 - p; omega
            · rw [List.length_append]; show 0 < l1.length + 1; omega
        rw [if_neg h33] at hr'
        have e := Option.some.inj hr'
        subst e
        exact ⟨Nat.le_refl _, hp, fun l hl => absurd hl (by intro q; cases q)⟩
    · rw [if_neg hm] at hr'
      have r4 := h4 hm
      by_cases hg : rgN (sg p) = r
      · rw [if_pos hg] at hr'
        have hpt : p < t := h.lt (rg_le (by omega))
        rcases then1_e hr' with ⟨p1, e1, rfl⟩ | ⟨p1, l1, e1, e2⟩
        · have := ih _ _ _ _ _ _ e1 (by omega) (by omega) (by omega)
          have t1 : p + 1 ≤ p1 := this.1
          exact ⟨by show p ≤ p1; omega, this.2.1, fun l hl => absurd hl (by intro q; cases q)⟩
        · obtain ⟨a1, a2, a3⟩ := ih _ _ _ _ _ _ e1 (by omega) (by omega) (by omega)
          obtain ⟨b1, b2, b3⟩ := (a3 l1 rfl).1 rfl
          have a1' : p + 1 ≤ p1 := a1
          have b1' : l1.length ≤ p1 - (p + 1) := b1
          have len : (acc ++ l1 ++ [sg p]).length = acc.length + l1.length + 1 := by rw [List.length_append, List.length_append]; rfl
          have gd : Gd acc → Gd (acc ++ l1 ++ [sg p]) := fun q => Gd.bi q b3 (by omega)
          split at e2
          · have e := Option.some.inj e2
            subst e
            refine ⟨by show p ≤ p1; omega, a2, fun l hl => ⟨fun q => absurd q hm, fun _ => ?_⟩⟩
            have := Option.some.inj hl
            subst this
            refine ⟨?_, by omega, gd⟩
            show _ + p ≤ acc.length + p1
            omega
          · obtain ⟨c1, c2, c3⟩ := ih _ _ _ _ _ _ e2 (by omega) (by omega) a2
            have c1' : p1 ≤ res.1 := c1
            refine ⟨by omega, c2, fun l hl => ⟨fun q => absurd q hm, fun _ => ?_⟩⟩
            obtain ⟨d1, d2, d3⟩ := (c3 l hl).2 (by omega)
            exact ⟨by omega, by omega, fun q => d3 (gd q)⟩
      · rw [if_neg hg] at hr'
        have e := Option.some.inj hr'
        subst e
        refine ⟨Nat.le_refl _, hp, fun l hl => ⟨fun q => absurd q hm, fun _ => ?_⟩⟩
        have := Option.some.inj hl
        subst this
        exact ⟨Nat.le_refl _, Nat.le_refl _, id⟩
/-! every reading ends -/
def mmX (t md r p : Nat) : Nat := 14 * (t + 1 - p) + 2 * (6 - r) + (if md = 0 then 1 else 0)
theorem then1_t {x : Option (Nat × Option (List Nat))} {k : Nat → List Nat → Option (Nat × Option (List Nat))} (h1 : ∃ res, x = some res) (h2 : ∀ p1 l, x = some (p1, some l) → ∃ res, k p1 l = some res) : ∃ res, then1 x k = some res := by
  obtain ⟨⟨p1, q⟩, e⟩ := h1
  subst e
  cases q with
  | none => exact ⟨_, rfl⟩
  | some l => exact h2 p1 l rfl
theorem pX_t (h : Tp sg t) : ∀ (f md r o p : Nat) (acc : List Nat), r ≤ 5 → (md ≠ 0 → r ≤ 4) → p ≤ t → mmX t md r p ≤ f → ∃ res, pX sg f md r o p acc = some res := by
  intro f
  induction f with
  | zero => intro md r o p acc h5 h4 hp hm; unfold mmX at hm; omega
  | succ f ih =>
    intro md r o p acc h5 h4 hp hmm
    unfold mmX at hmm
    show ∃ res, pB sg (pX sg f) md r o p acc = some res
    unfold pB
    by_cases hm : md = 0
    · rw [if_pos hm] at hmm ⊢
      by_cases r5 : r < 5
      · rw [if_pos r5]
        refine then1_t (ih 0 (r + 1) o p [] (by omega) (by omega) hp (by unfold mmX; rw [if_pos rfl]; omega)) (fun p1 l e => ?_)
        obtain ⟨a1, a2, -⟩ := pX_f h _ _ _ _ _ _ _ e (by omega) (by omega) hp
        have a1' : p ≤ p1 := a1
        exact ih 1 r o p1 l h5 (by omega) a2 (by unfold mmX; rw [if_neg (by omega)]; omega)
      · rw [if_neg r5]
        unfold pO
        split
        · exact ⟨_, rfl⟩
        · split
          · exact ⟨_, rfl⟩
          · split
            · exact ⟨_, rfl⟩
            · split
              · next h40 =>
                have : p < t := h.lt (by omega)
                refine then1_t (ih 0 0 (o + 1) (p + 1) [] (by omega) (by omega) (by omega) (by unfold mmX; rw [if_pos rfl]; omega)) (fun p1 l e => ?_)
                split <;> exact ⟨_, rfl⟩
              · split
                · next h33 =>
                  have : p < t := h.lt (by omega)
                  exact then1_t (ih 0 5 (o + 1) (p + 1) [] (by omega) (by omega) (by omega) (by unfold mmX; rw [if_pos rfl]; omega)) (fun p1 l e => ⟨_, rfl⟩)
                · exact ⟨_, rfl⟩
    · rw [if_neg hm] at hmm ⊢
      have r4 := h4 hm
      split
      · next hg =>
        have : p < t := h.lt (rg_le (by omega))
        refine then1_t (ih 0 (r + 1) o (p + 1) [] (by omega) (by omega) (by omega) (by unfold mmX; rw [if_pos rfl]; omega)) (fun p1 l e => ?_)
        obtain ⟨a1, a2, -⟩ := pX_f h _ _ _ _ _ _ _ e (by omega) (by omega) (by omega)
        have a1' : p + 1 ≤ p1 := a1
        split
        · exact ⟨_, rfl⟩
        · exact ih 1 r o p1 _ h5 (by omega) a2 (by unfold mmX; rw [if_neg (by omega)]; omega)
      · exact ⟨_, rfl⟩
end PRS
