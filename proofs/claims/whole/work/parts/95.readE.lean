section RDE
variable {A : Nat → Nat → Int32} {L : Nat → Nat → Int64} {F : Nat → Nat → Int32} {A' F' : Nat → Nat → Int32} {gv : xm_H → Prop} {g : Int32 → xm_H → Prop} {sg : Nat → Nat} {K t p r o m v s n k f ch : Nat} {x x1 x2 x3 x4 y z : Int32} {h : xm_H} {cs u w : List Int32} {acc l : List Nat}
def eR (sg : Nat → Nat) (p : Nat) : Nat × Option (List Nat) := (pX sg 2000 0 0 0 p []).getD (p, none)
theorem eR_eq (h : Tp sg t) (ht : t ≤ 120) (hp : p ≤ t) : pX sg 2000 0 0 0 p [] = some (eR sg p) := by
  obtain ⟨res, e⟩ := pX_t h 2000 0 0 0 p [] (by omega) (by omega) hp (by unfold mmX; rw [if_pos rfl]; omega)
  unfold eR; rw [e]; rfl
def lnR (sg : Nat → Nat) (p : Nat) : Nat × Option (List Nat × Option (List Nat)) := match eR sg p with
  | (p1, none) => (p1, none)
  | (p1, some l1) => if sg p1 = 63 then (match eR sg (p1 + 1) with
    | (p2, none) => (p2, none)
    | (p2, some l2) => (p2, some (l1, some l2))) else (p1, some (l1, none))
def txR (sg : Nat → Nat) (t : Nat) : Nat → Nat → List (List Nat × Option (List Nat)) → Nat × Option (List (List Nat × Option (List Nat)))
  | 0, p, _ => (p, none)
  | f + 1, p, acc => match lnR sg p with
    | (p1, none) => (p1, none)
    | (p1, some ln) => if sg p1 = 59 then txR sg t f (p1 + 1) (acc ++ [ln]) else if p1 < t then (p1, none) else (p1, some (acc ++ [ln]))
/-- the cases of a line -/
theorem lnR_e (h : Tp sg t) (ht : t ≤ 120) (hp : p ≤ t) : (∃ p1, eR sg p = (p1, none) ∧ lnR sg p = (p1, none)) ∨ (∃ p1 l1, eR sg p = (p1, some l1) ∧ sg p1 ≠ 63 ∧ lnR sg p = (p1, some (l1, none))) ∨ (∃ p1 l1 p2, eR sg p = (p1, some l1) ∧ sg p1 = 63 ∧ eR sg (p1 + 1) = (p2, none) ∧ lnR sg p = (p2, none)) ∨ (∃ p1 l1 p2 l2, eR sg p = (p1, some l1) ∧ sg p1 = 63 ∧ eR sg (p1 + 1) = (p2, some l2) ∧ lnR sg p = (p2, some (l1, some l2))) := by
  rcases e1 : eR sg p with ⟨p1, q⟩
  cases q with
  | none => exact Or.inl ⟨p1, rfl, by unfold lnR; rw [e1]⟩
  | some l1 =>
    right
    by_cases h63 : sg p1 = 63
    · right
      rcases e2 : eR sg (p1 + 1) with ⟨p2, q2⟩
      cases q2 with
      | none => exact Or.inl ⟨p1, l1, p2, rfl, h63, e2, by unfold lnR; rw [e1]; show (if sg p1 = 63 then _ else _) = _; rw [if_pos h63, e2]⟩
      | some l2 => exact Or.inr ⟨p1, l1, p2, l2, rfl, h63, e2, by unfold lnR; rw [e1]; show (if sg p1 = 63 then _ else _) = _; rw [if_pos h63, e2]⟩
    · exact Or.inl ⟨p1, l1, rfl, h63, by unfold lnR; rw [e1]; show (if sg p1 = 63 then _ else _) = _; rw [if_neg h63]⟩
theorem eR_f (h : Tp sg t) (ht : t ≤ 120) (hp : p ≤ t) : p ≤ (eR sg p).1 ∧ (eR sg p).1 ≤ t ∧ ∀ l, (eR sg p).2 = some l → l.length ≤ (eR sg p).1 - p ∧ 0 < l.length ∧ Gd l := by
  obtain ⟨a1, a2, a3⟩ := pX_f h _ _ _ _ _ _ _ (eR_eq h ht hp) (by omega) (by omega) hp
  exact ⟨a1, a2, fun l hl => (a3 l hl).1 rfl⟩
/-! the class's signs of a line -/
def lnC (b : Nat) (ln : List Nat × Option (List Nat)) : List Int32 := match ln with
  | (l1, none) => l1.map Int32.ofNat ++ [59]
  | (l1, some l2) => l1.map Int32.ofNat ++ [-(Int32.ofNat (b + l1.length + 1 + l2.length))] ++ l2.map Int32.ofNat ++ [59]
def cdL (cs : List Int32) : List (List Nat × Option (List Nat)) → List Int32
  | [] => cs
  | ln :: r => cdL (cs ++ lnC cs.length ln) r
theorem cdL_app : ∀ (a : List (List Nat × Option (List Nat))) (cs : List Int32) (ln : List Nat × Option (List Nat)), cdL cs (a ++ [ln]) = cdL cs a ++ lnC (cdL cs a).length ln
  | [], cs, ln => rfl
  | b :: a, cs, ln => cdL_app a (cs ++ lnC cs.length b) ln
theorem gd_mid (hk : k ≠ u.length) : (u ++ [y] ++ w).getD k 0 = (u ++ [z] ++ w).getD k 0 := by
  rw [List.getD_eq_getElem?_getD, List.getD_eq_getElem?_getD, List.append_assoc, List.append_assoc]
  by_cases h : k < u.length
  · rw [List.getElem?_append_left h, List.getElem?_append_left h]
  · rw [List.getElem?_append_right (l₁ := u) (by omega), List.getElem?_append_right (l₁ := u) (by omega)]
    rcases hk2 : k - u.length with _ | j
    · omega
    · rfl
theorem gd_at : (u ++ [y] ++ w).getD u.length 0 = y := by
  rw [List.getD_eq_getElem?_getD, List.append_assoc, List.getElem?_append_right (Nat.le_refl _), Nat.sub_self]
  rfl
theorem c_line (hT : TpC A sg t) (hK : 82 < K) (hp : p ≤ t) (hl : cs.length ≤ p) {A1 F1 : Nat → Nat → Int32} (rd : RdC A F t p cs A1 F1) (Hok : ∀ ln A' F', (lnR sg p).2 = some ln → RdC A F t (lnR sg p).1 (cs ++ lnC cs.length ln) A' F' → p ≤ (lnR sg p).1 → (lnR sg p).1 ≤ t → (cs ++ lnC cs.length ln).length ≤ (lnR sg p).1 + 1 → g 1 (HP A' L F')) (Hf : ∀ v A' F', (lnR sg p).2 = none → RdF A F t (lnR sg p).1 A' F' → (lnR sg p).1 ≤ t → (v = 0 ∨ (v = 1 ∧ isD (sg (lnR sg p).1))) → g v (HP A' L F')) : xm_Call K sX3_readLine 3 [.ref 13] (HP A1 L F1) (xm_pi g) := by
  have t1 := hT.1
  have t2 := hT.2.1
  obtain ⟨f1, f2, f3⟩ := eR_f t2 t1 hp
  refine eX3_readLine (K := 82) hK ⟨_, rfl⟩ ((c_read (sg := sg) (F := F) (L := L) hT 2000).1 82 0 0 p _ cs A1 F1 _ (eR_eq t2 t1 hp) (by omega) (by omega) hp (by omega) hl rd ⟨fun l A2 F2 q r2 => ?_, fun v A2 F2 q rf hv => ?_⟩)
  · dsimp only
    rw [if_neg (by decide)]
    obtain ⟨b1, b2, b3⟩ := f3 l q
    obtain ⟨k1, k2, k3⟩ := r2.get
    have len1 : (cs ++ l.map Int32.ofNat).length = cs.length + l.length := map_len
    refine c_accept (sg := sg) (ch := 63) (by omega) hT (by omega) k1 k2 k3 f2 (fun h63 => ?_) (fun h63 => ?_)
    · try dsimp only
      rw [if_neg (by decide)]
      have hpt : (eR sg p).1 < t := t2.lt (by omega)
      have r3 := r2.go
      refine ⟨_, rfl, ?_⟩
      rw [show va_up F2 13 (va_up (F2 13) 2 (Int32.ofNat ((eR sg p).1 + 1))) 13 4 = Int32.ofNat (cs ++ l.map Int32.ofNat).length from r3.2.2.2.2.1]
      refine c_emitC (by omega) r3 (by omega) (fun A3 F3 r4 => ?_)
      have len2 : (cs ++ l.map Int32.ofNat ++ [(0 : Int32)]).length = cs.length + l.length + 1 := by rw [List.length_append, len1]; rfl
      obtain ⟨d1, d2, d3⟩ := eR_f t2 t1 (show (eR sg p).1 + 1 ≤ t by omega)
      refine (c_read (sg := sg) (F := F) (L := L) hT 2000).1 82 0 0 ((eR sg p).1 + 1) _ (cs ++ l.map Int32.ofNat ++ [(0 : Int32)]) A3 F3 _ (eR_eq t2 t1 (by omega)) (by omega) (by omega) (by omega) (by omega) (by omega) r4 ⟨fun l2 A4 F4 q2 r5 => ?_, fun v A4 F4 q2 rf hv => ?_⟩
      · dsimp only
        rw [if_neg (by decide)]
        obtain ⟨c1, c2, c3⟩ := d3 l2 q2
        have len3 : (cs ++ l.map Int32.ofNat ++ [(0 : Int32)] ++ l2.map Int32.ofNat).length = cs.length + l.length + 1 + l2.length := by rw [map_len, len2]
        have el : lnR sg p = ((eR sg (eR sg p).1.succ).1, some (l, some l2)) := by
          have e1 : eR sg p = ((eR sg p).1, some l) := by rw [← q]
          have e2 : eR sg ((eR sg p).1 + 1) = ((eR sg ((eR sg p).1 + 1)).1, some l2) := by rw [← q2]
          unfold lnR
          rw [e1]
          show (if sg (eR sg p).1 = 63 then _ else _) = _
          rw [if_pos h63, e2]
        rw [el] at Hok
        rw [if_pos (show Int32.ofNat (cs ++ l.map Int32.ofNat).length < (128 : Int32) from (n_lt (q := 128) (by omega) (by omega)).mpr (by omega))]
        refine ⟨_, rfl, _, rfl, _, sn_15 (by omega), ?_⟩
        have r6 : RdC A F t (eR sg ((eR sg p).1 + 1)).1 (cs ++ l.map Int32.ofNat ++ [-(Int32.ofNat (cs.length + l.length + 1 + l2.length))] ++ l2.map Int32.ofNat) (va_up A4 15 (upd (A4 15) (cs ++ l.map Int32.ofNat).length (-(F4 13 4)))) F4 := by
          obtain ⟨s1, s2, s3, s4, s5, s6⟩ := r5
          have len4 : (cs ++ l.map Int32.ofNat ++ [-(Int32.ofNat (cs.length + l.length + 1 + l2.length))] ++ l2.map Int32.ofNat).length = cs.length + l.length + 1 + l2.length := by rw [map_len, List.length_append, len1]; rfl
          refine ⟨Ag.up s1 (by simp), s2, s3, s4, by rw [s5, len3, len4], fun k hk => ?_⟩
          rw [len4] at hk
          rw [u_eq]
          by_cases e : k = (cs ++ l.map Int32.ofNat).length
          · rw [e, p_eq, gd_at, s5, len3]
          · rw [p_ne e, s6 k (by omega)]; exact gd_mid e
        refine c_emitC (by omega) r6 (by rw [map_len, List.length_append, len1]; show cs.length + l.length + 1 + l2.length < 128; omega) (fun A5 F5 r7 => xm_pi_i (Hok _ A5 F5 rfl ?_ ?_ d2 ?_))
        · show RdC A F t (eR sg ((eR sg p).1 + 1)).1 (cs ++ (l.map Int32.ofNat ++ [-(Int32.ofNat (cs.length + l.length + 1 + l2.length))] ++ l2.map Int32.ofNat ++ [59])) A5 F5
          rw [← List.append_assoc, ← List.append_assoc, ← List.append_assoc]
          exact r7
        · show p ≤ (eR sg ((eR sg p).1 + 1)).1; omega
        · show (cs ++ (l.map Int32.ofNat ++ [-(Int32.ofNat (cs.length + l.length + 1 + l2.length))] ++ l2.map Int32.ofNat ++ [59])).length ≤ (eR sg ((eR sg p).1 + 1)).1 + 1
          simp only [List.length_append, List.length_map, List.length_cons, List.length_nil]
          omega
      · have el : lnR sg p = ((eR sg ((eR sg p).1 + 1)).1, none) := by
          have e1 : eR sg p = ((eR sg p).1, some l) := by rw [← q]
          have e2 : eR sg ((eR sg p).1 + 1) = ((eR sg ((eR sg p).1 + 1)).1, none) := by rw [← q2]
          unfold lnR
          rw [e1]
          show (if sg (eR sg p).1 = 63 then _ else _) = _
          rw [if_pos h63, e2]
        rw [el] at Hf
        rcases hv with rfl | ⟨rfl, hd2⟩
        · try dsimp only
          rw [if_pos rfl]; exact xm_pi_i (Hf 0 A4 F4 rfl rf d2 (Or.inl rfl))
        · try dsimp only
          rw [if_neg (by decide), if_pos (show Int32.ofNat (cs ++ l.map Int32.ofNat).length < (128 : Int32) from (n_lt (q := 128) (by omega) (by omega)).mpr (by omega))]
          obtain ⟨s1, s2, s3, s4, s5⟩ := rf
          refine ⟨_, rfl, _, rfl, _, sn_15 (by omega), c_emitF (by omega) (⟨Ag.up s1 (by simp), s2, s3, s4, s5⟩ : RdF A F t _ _ _) (fun A5 F5 r7 => xm_pi_i (Hf 1 A5 F5 rfl r7 d2 (Or.inr ⟨rfl, hd2⟩)))⟩
    · rw [if_pos rfl]
      have el : lnR sg p = ((eR sg p).1, some (l, none)) := by
        have e1 : eR sg p = ((eR sg p).1, some l) := by rw [← q]
        unfold lnR
        rw [e1]
        show (if sg (eR sg p).1 = 63 then _ else _) = _
        rw [if_neg h63]
      rw [el] at Hok
      refine c_emitC (by omega) r2 (by omega) (fun A3 F3 r3 => xm_pi_i (Hok _ A3 F3 rfl ?_ f1 f2 ?_))
      · show RdC A F t (eR sg p).1 (cs ++ (l.map Int32.ofNat ++ [59])) A3 F3
        rw [← List.append_assoc]; exact r3
      · show (cs ++ (l.map Int32.ofNat ++ [59])).length ≤ (eR sg p).1 + 1
        simp only [List.length_append, List.length_map, List.length_cons, List.length_nil]
        omega
  · have el : lnR sg p = ((eR sg p).1, none) := by
      have e1 : eR sg p = ((eR sg p).1, none) := by rw [← q]
      unfold lnR
      rw [e1]
    rw [el] at Hf
    rcases hv with rfl | ⟨rfl, hd2⟩
    · try dsimp only
      rw [if_pos rfl]; exact xm_pi_i (Hf 0 A2 F2 rfl rf f2 (Or.inl rfl))
    · try dsimp only
      rw [if_neg (by decide)]
      obtain ⟨k1, k2, k3⟩ := rf.get
      refine c_accept (sg := sg) (ch := 63) (by omega) hT (by omega) k1 k2 k3 f2 (fun h63 => ?_) (fun _ => ?_)
      · omega
      · rw [if_pos rfl]
        exact c_emitF (by omega) rf (fun A5 F5 r7 => xm_pi_i (Hf 1 A5 F5 rfl r7 f2 (Or.inr ⟨rfl, hd2⟩)))
theorem c_text (hT : TpC A sg t) (hK : 83 ≤ K) : ∀ (f p : Nat) (acc : List (List Nat × Option (List Nat))) (line : Nat) (A1 F1 : Nat → Nat → Int32) (g : Int32 → xm_H → Prop), p ≤ t → t + 1 - p ≤ f → line ≤ p → (cdL [] acc).length ≤ p → RdC A F t p (cdL [] acc) A1 F1 → (∀ ls A' F', (txR sg t f p acc).2 = some ls → RdC A F t (txR sg t f p acc).1 (cdL [] ls) A' F' → (cdL [] ls).length ≤ 121 → g 1 (HP A' L F')) → (∀ A' F', (txR sg t f p acc).2 = none → RdF A F t (txR sg t f p acc).1 A' F' → (txR sg t f p acc).1 ≤ t → g 0 (HP A' L F')) → xm_L K sX3_readText kX3_readText 8 [some (.ref 13), some (.int (Int32.ofNat line))] [] (HP A1 L F1) (xm_pi g) := by
  have t1 := hT.1
  have t2 := hT.2.1
  intro f
  induction f with
  | zero => intro p acc line A1 F1 g hp hf; omega
  | succ f ih =>
    intro p acc line A1 F1 g hp hf hln hl rd Hok Hf
    refine xX3_readText_8 ?_
    rw [if_neg (show ¬ (120 : Int32) < Int32.ofNat line from n_ge (p := 120) (by omega) (by omega) (by omega))]
    have ex : txR sg t (f + 1) p acc = match lnR sg p with
      | (p1, none) => (p1, none)
      | (p1, some ln) => if sg p1 = 59 then txR sg t f (p1 + 1) (acc ++ [ln]) else if p1 < t then (p1, none) else (p1, some (acc ++ [ln])) := rfl
    refine c_line (sg := sg) hT (by omega) hp hl rd (fun ln A2 F2 q r2 h1 h2 h3 => ?_) (fun v A2 F2 q rf h2 hv => ?_)
    · try dsimp only
      rw [if_neg (by decide)]
      have e1 : lnR sg p = ((lnR sg p).1, some ln) := by rw [← q]
      rw [e1] at ex
      have ex' : txR sg t (f + 1) p acc = if sg (lnR sg p).1 = 59 then txR sg t f ((lnR sg p).1 + 1) (acc ++ [ln]) else if (lnR sg p).1 < t then ((lnR sg p).1, none) else ((lnR sg p).1, some (acc ++ [ln])) := ex
      rw [ex'] at Hok Hf
      obtain ⟨k1, k2, k3⟩ := r2.get
      rw [← cdL_app] at r2 h3
      refine ⟨_, rfl, _, rfl, ?_⟩
      rw [k2, k3]
      by_cases hpt : (lnR sg p).1 < t
      · rw [if_pos ((n_lt (by omega) (by omega)).mpr hpt)]
        refine c_accept (sg := sg) (ch := 59) (by omega) hT (by omega) k1 k2 k3 h2 (fun h59 => ?_) (fun h59 => ?_)
        · try dsimp only
          rw [if_neg (by decide), n_succ]
          rw [if_pos h59] at Hok Hf
          exact ih _ _ (line + 1) _ _ g (by omega) (by omega) (by omega) (by omega) r2.go Hok Hf
        · rw [if_pos rfl]
          rw [if_neg h59, if_pos hpt] at Hf
          exact xm_pi_i (Hf A2 F2 rfl (r2.toF (by omega)) h2)
      · rw [if_neg (n_ge (by omega) (by omega) (by omega))]
        have h59 : ¬ sg (lnR sg p).1 = 59 := fun q => hpt (t2.lt (by omega))
        rw [if_neg h59, if_neg hpt] at Hok
        exact xm_pi_i (Hok _ A2 F2 rfl r2 (by omega))
    · have e1 : lnR sg p = ((lnR sg p).1, none) := by rw [← q]
      rw [e1] at ex
      have ex' : txR sg t (f + 1) p acc = ((lnR sg p).1, none) := ex
      rw [ex'] at Hf
      rcases hv with rfl | ⟨rfl, hd2⟩
      · rw [if_pos rfl]; exact xm_pi_i (Hf A2 F2 rfl rf h2)
      · try dsimp only
        rw [if_neg (by decide)]
        obtain ⟨k1, k2, k3⟩ := rf.get
        have hpt : (lnR sg p).1 < t := t2.lt (by omega)
        refine ⟨_, rfl, _, rfl, ?_⟩
        rw [k2, k3, if_pos ((n_lt (by omega) (by omega)).mpr hpt)]
        refine c_accept (sg := sg) (ch := 59) (by omega) hT (by omega) k1 k2 k3 h2 (fun h59 => ?_) (fun h59 => ?_)
        · omega
        · rw [if_pos rfl]; exact xm_pi_i (Hf A2 F2 rfl rf h2)
end RDE
