section TXB
variable {A : Nat → Nat → Int32} {L : Nat → Nat → Int64} {F : Nat → Nat → Int32} {A' F' : Nat → Nat → Int32} {gv : xm_H → Prop} {g : Int32 → xm_H → Prop} {P : Option Value → xm_H → Prop} {sg : Nat → Nat} {K K' t p r o m v s n k j f ch q ln : Nat} {x x1 x2 x3 x4 y z : Int32} {h : xm_H} {ts acc l l1 l2 : List Nat} {b b0 : (Nat → Int32) × (Nat → Int32) × (Nat → Int32)} {ls : List (List Nat × Option (List Nat))}
def ctS : List (List Nat × Option (List Nat)) → List Nat
  | [] => []
  | ln :: r => lnTs ln ++ ctS r
/-- where tests and lines end, from line j and step n on -/
def DLn (f6 f7 : Nat → Int32) : List (List Nat × Option (List Nat)) → Nat → Nat → Prop
  | [], _, _ => True
  | ln :: r, j, n => f6 j = Int32.ofNat (lnTE n ln) ∧ f7 j = Int32.ofNat (n + (lnTs ln).length) ∧ DLn f6 f7 r (j + 1) (n + (lnTs ln).length)
def SegM (A' : Nat → Nat → Int32) (n : Nat) (l : List Nat) : Prop := ∀ i, i < l.length → A' 59 (n + i) = Int32.ofNat (aOf (l.getD i 0)) ∧ A' 60 (n + i) = Int32.ofNat (wOf (l.getD i 0))
theorem SegM.app (h : SegM A' n (l1 ++ l2)) : SegM A' n l1 ∧ SegM A' (n + l1.length) l2 := by
  have len : (l1 ++ l2).length = l1.length + l2.length := List.length_append
  refine ⟨fun i hi => ?_, fun i hi => ?_⟩
  · have := h i (by omega)
    rw [List.getD_eq_getElem?_getD, List.getElem?_append_left hi, ← List.getD_eq_getElem?_getD] at this
    exact this
  · have := h (l1.length + i) (by omega)
    rw [List.getD_eq_getElem?_getD, List.getElem?_append_right (by omega), ← List.getD_eq_getElem?_getD, show l1.length + i - l1.length = i by omega, ← Nat.add_assoc] at this
    exact this
theorem fo_keep : ∀ (ls : List (List Nat × Option (List Nat))) (st : List Nat × ((Nat → Int32) × (Nat → Int32) × (Nat → Int32)) × Nat), (∀ k, k < 61 + st.2.2 → (ls.foldl fo1 st).2.1.2.1 k = st.2.1.2.1 k ∧ (ls.foldl fo1 st).2.1.2.2 k = st.2.1.2.2 k) ∧ (ls.foldl fo1 st).1 = st.1 ++ ctS ls ∧ (ls.foldl fo1 st).2.2 = st.2.2 + ls.length
  | [], st => ⟨fun _ _ => ⟨rfl, rfl⟩, (List.append_nil _).symm, rfl⟩
  | ln :: r, st => by
    obtain ⟨h1, h2, h3⟩ := fo_keep r (fo1 st ln)
    refine ⟨fun k hk => ?_, ?_, ?_⟩
    · obtain ⟨c1, c2⟩ := h1 k (by show k < 61 + (st.2.2 + 1); omega)
      refine ⟨c1.trans ?_, c2.trans ?_⟩
      · show upd st.2.1.2.1 (61 + st.2.2) _ k = _; exact p_ne (by omega)
      · show upd st.2.1.2.2 (61 + st.2.2) _ k = _; exact p_ne (by omega)
    · show (r.foldl fo1 (fo1 st ln)).1 = st.1 ++ (lnTs ln ++ ctS r)
      rw [h2, ← List.append_assoc]; rfl
    · show (r.foldl fo1 (fo1 st ln)).2.2 = st.2.2 + (r.length + 1)
      rw [h3]; show st.2.2 + 1 + r.length = _; omega
theorem fo_DL : ∀ (ls : List (List Nat × Option (List Nat))) (st : List Nat × ((Nat → Int32) × (Nat → Int32) × (Nat → Int32)) × Nat), DLn (fun j => (ls.foldl fo1 st).2.1.2.1 (61 + j)) (fun j => (ls.foldl fo1 st).2.1.2.2 (61 + j)) ls st.2.2 st.1.length
  | [], st => trivial
  | ln :: r, st => by
    obtain ⟨h1, h2, h3⟩ := fo_keep r (fo1 st ln)
    obtain ⟨c1, c2⟩ := h1 (61 + st.2.2) (by show 61 + st.2.2 < 61 + (st.2.2 + 1); omega)
    have ih := fo_DL r (fo1 st ln)
    refine ⟨c1.trans ?_, c2.trans ?_, ?_⟩
    · show upd st.2.1.2.1 (61 + st.2.2) _ (61 + st.2.2) = _; exact p_eq
    · show upd st.2.1.2.2 (61 + st.2.2) _ (61 + st.2.2) = _; exact p_eq
    · have e : (fo1 st ln).1.length = st.1.length + (lnTs ln).length := by show (st.1 ++ lnTs ln).length = _; rw [List.length_append]
      rw [e] at ih
      exact ih
theorem lnTE_le {l : List Nat × Option (List Nat)} : lnTE n l ≤ n + (lnTs l).length := by
  rcases l with ⟨l1, q⟩
  cases q with
  | none => show n ≤ _; omega
  | some l2 => show n + l1.length ≤ n + (l1 ++ l2).length; rw [List.length_append]; omega
theorem DLn_at {f6 f7 : Nat → Int32} : ∀ (ls : List (List Nat × Option (List Nat))) (j n : Nat), DLn f6 f7 ls j n → ∀ i, i < ls.length → (∃ a, a ≤ n + (ctS ls).length ∧ f6 (j + i) = Int32.ofNat a) ∧ ∃ a, a ≤ n + (ctS ls).length ∧ f7 (j + i) = Int32.ofNat a
  | [], j, n, _, i, hi => absurd hi (by simp)
  | ln :: r, j, n, h, i, hi => by
    obtain ⟨h1, h2, h3⟩ := h
    have len : (ctS (ln :: r)).length = (lnTs ln).length + (ctS r).length := by show (lnTs ln ++ ctS r).length = _; rw [List.length_append]
    by_cases e : i = 0
    · subst e
      have := lnTE_le (n := n) (l := ln)
      exact ⟨⟨_, by omega, h1⟩, ⟨_, by omega, h2⟩⟩
    · obtain ⟨⟨a, a1, a2⟩, c, c1, c2⟩ := DLn_at r (j + 1) _ h3 (i - 1) (by simp at hi; omega)
      rw [show j + 1 + (i - 1) = j + i by omega] at a2 c2
      exact ⟨⟨a, by omega, a2⟩, ⟨c, by omega, c2⟩⟩
theorem DLn.to {f6 f7 g6 g7 : Nat → Int32} : ∀ (ls : List (List Nat × Option (List Nat))) (j n : Nat), DLn f6 f7 ls j n → (∀ i, i < ls.length → g6 (j + i) = f6 (j + i) ∧ g7 (j + i) = f7 (j + i)) → DLn g6 g7 ls j n
  | [], j, n, _, _ => trivial
  | ln :: r, j, n, h, hg => by
    obtain ⟨h1, h2, h3⟩ := h
    have h0 := hg 0 (by simp)
    refine ⟨h0.1.trans h1, h0.2.trans h2, DLn.to r (j + 1) _ h3 (fun i hi => ?_)⟩
    have := hg (i + 1) (by simp; omega)
    rw [show j + (i + 1) = j + 1 + i by omega] at this
    exact this
/-- the law, as the reference holds it -/
def DM (A' : Nat → Nat → Int32) (ls : List (List Nat × Option (List Nat))) : Prop := A' 61 0 = Int32.ofNat ls.length ∧ SegM A' 0 (ctS ls) ∧ DLn (A' 62) (A' 63) ls 0 0 ∧ ls.length ≤ 61 ∧ (ctS ls).length ≤ 120
theorem nar_1 : ∀ a, a < 128 → xm_nar 1 (Int32.ofNat a) = Int32.ofNat a := by decide +kernel
theorem nar_2 : ∀ a, a < 300 → xm_nar 2 (Int32.ofNat a) = Int32.ofNat a := by decide +kernel
theorem n_0k (c : Int32) (k : Nat) : c * 0 + Int32.ofNat k = Int32.ofNat k := by rw [Int32.mul_zero, Int32.zero_add]
theorem aOf_lt (h : okTk s) : aOf s < 128 := by
  rcases h with h | h | h | h | h
  · unfold aOf; rw [if_pos (by omega)]; omega
  · unfold aOf; rw [if_neg (by omega), if_pos h]; omega
  · subst h; decide
  · subst h; decide
  · exact (op_aw h).1
theorem GdL.all {l : List Nat × Option (List Nat)} (h : GdL l) : ∀ s ∈ lnTs l, okTk s := by
  rcases l with ⟨l1, q⟩
  cases q with
  | none => exact h.1.1.2
  | some l2 =>
    intro s hs
    rcases List.mem_append.mp hs with hs | hs
    · exact h.1.1.2 s hs
    · exact (h.2 l2 rfl).2 s hs
theorem ctS_ts : ∀ (ls : List (List Nat × Option (List Nat))), (∀ l ∈ ls, GdL l) → ∀ s ∈ ctS ls, okTk s
  | [], _, s, hs => absurd hs (by intro z; cases z)
  | l :: r, h, s, hs => by
    rcases List.mem_append.mp hs with hs | hs
    · exact (h l (by simp)).all s hs
    · exact ctS_ts r (fun q hq => h q (by simp [hq])) s hs
theorem gd_mem (hi : k < l.length) : l.getD k 0 ∈ l := by
  rw [List.getD_eq_getElem?_getD, List.getElem?_eq_getElem hi]
  exact List.getElem_mem hi
theorem m_copy {A1 F1 : Nat → Nat → Int32} (hK : 0 < K) (r1 : RdM A F t p 0 (foM b0 ls).1 (foM b0 ls).2.1 A1 F1) (hl : (foM b0 ls).1.length ≤ 120) (hm : (foM b0 ls).2.2 ≤ 61) (hb : (foM b0 ls).2.1.1 1 = Int32.ofNat (foM b0 ls).2.2) (hg : ∀ l ∈ ls, GdL l) (H : ∀ A2, Ag [59, 60, 61, 62, 63] A A2 → DM A2 ls → g (-1) (HP A2 L (va_up F1 44 (va_up (F1 44) 18 0)))) : xm_L K sX9_readText kX9_readText 56 [some (.ref 44), some (.int 0), some (.int (Int32.ofNat 0))] [] (HP A1 L (va_up F1 44 (va_up (F1 44) 18 0))) (xm_pi g) := by
  obtain ⟨k1, k2, k3⟩ := fo_keep ls ([], (upd b0.1 1 0, b0.2.1, b0.2.2), 0)
  have kD := fo_DL ls ([], (upd b0.1 1 0, b0.2.1, b0.2.2), 0)
  have ets : (foM b0 ls).1 = ctS ls := k2
  have em : (foM b0 ls).2.2 = ls.length := by show (ls.foldl fo1 _).2.2 = _; rw [k3]; show 0 + ls.length = _; omega
  rw [ets] at r1 hl
  rw [em] at hm hb
  have hts := ctS_ts ls hg
  obtain ⟨⟨a1, a2, a3, a4, a5⟩, c1, c2, c3, c4, c5⟩ := r1
  generalize hG : va_up F1 44 (va_up (F1 44) 18 0) = G
  have g22 : G 44 22 = Int32.ofNat (ctS ls).length := by rw [← hG, u_eq, u_ne (by omega)]; exact c4
  refine xm_for (n := (ctS ls).length) (Q := fun k h => xm_L K sX9_readText kX9_readText 56 [some (.ref 44), some (.int 0), some (.int (Int32.ofNat k))] [] h (xm_pi g)) (fun k h => ∃ A2, h = HP A2 L G ∧ Ag [59, 60] A1 A2 ∧ (∀ i, i < k → A2 59 i = A1 59 (130 + i) ∧ A2 60 i = A1 60 (130 + i)) ∧ ∀ i, 130 ≤ i → A2 59 i = A1 59 i ∧ A2 60 i = A1 60 i) ?_ ?_ 0 _ (Nat.zero_le _) ⟨A1, rfl, Ag.rf, fun i hi => absurd hi (by omega), fun i _ => ⟨rfl, rfl⟩⟩
  · rintro k h hk ⟨A2, rfl, e1, e2, e3⟩ ih
    obtain ⟨d1, d2⟩ := c5 k hk
    refine xX9_readText_56 ⟨_, rfl, ?_⟩
    rw [g22, if_pos ((n_lt (by omega) (by omega)).mpr hk), n_130, n_0k, n_succ]
    refine ⟨_, rfl, _, rfl, _, ln_59 (by omega), _, sn_59 (by omega), _, rfl, _, rfl, _, ln_60 (by omega), _, sn_60 (by omega), ih _ ⟨_, rfl, Ag.up (Ag.up e1 (by simp)) (by simp), fun i hi => ?_, fun i hi => ?_⟩⟩
    · show upd (A2 59) k (xm_nar 1 (A2 59 (130 + k))) i = _ ∧ upd (A2 60) k (A2 60 (130 + k)) i = _
      have na : xm_nar 1 (A2 59 (130 + k)) = A1 59 (130 + k) := by rw [(e3 (130 + k) (by omega)).1, d1]; exact nar_1 _ (aOf_lt (hts _ (gd_mem hk)))
      rw [na, (e3 (130 + k) (by omega)).2]
      by_cases e : i = k
      · subst e; rw [p_eq, p_eq]; exact ⟨rfl, rfl⟩
      · rw [p_ne e, p_ne e]; exact e2 i (by omega)
    · show upd (A2 59) k _ i = _ ∧ upd (A2 60) k _ i = _
      rw [p_ne (by omega), p_ne (by omega)]; exact e3 i hi
  · rintro h ⟨A2, rfl, e1, e2, e3⟩
    refine xX9_readText_56 ⟨_, rfl, ?_⟩
    rw [g22, if_neg (n_ge (by omega) (by omega) (Nat.le_refl _))]
    refine ⟨_, rfl, _, rfl, _, ln_61 (j := 1) (by omega), _, sn_61 (j := 0) (by omega), ?_⟩
    have e61 : A2 61 1 = Int32.ofNat ls.length := by rw [e1 61 (by simp), a2.1]; exact hb
    rw [e61]
    have b62 : A2 62 = (foM b0 ls).2.1.2.1 := by rw [e1 62 (by simp)]; exact a2.2.1
    have b63 : A2 63 = (foM b0 ls).2.1.2.2 := by rw [e1 63 (by simp)]; exact a2.2.2
    have kD' : DLn (fun j => A2 62 (61 + j)) (fun j => A2 63 (61 + j)) ls 0 0 := by rw [b62, b63]; exact kD
    refine xm_for (n := ls.length) (Q := fun k h => xm_L K sX9_readText kX9_readText 100 [some (.ref 44), some (.int 0), some (.int (Int32.ofNat k))] [] h (xm_pi g)) (fun k h => ∃ A3, h = HP A3 L G ∧ Ag [62, 63] (va_up A2 61 (upd (A2 61) 0 (Int32.ofNat ls.length))) A3 ∧ (∀ i, i < k → A3 62 i = A2 62 (61 + i) ∧ A3 63 i = A2 63 (61 + i)) ∧ ∀ i, 61 ≤ i → A3 62 i = A2 62 i ∧ A3 63 i = A2 63 i) ?_ ?_ 0 _ (Nat.zero_le _) ⟨_, rfl, Ag.rf, fun i hi => absurd hi (by omega), fun i _ => ⟨rfl, rfl⟩⟩
    · rintro k h hk ⟨A3, rfl, f1, f2, f3⟩ ih
      obtain ⟨⟨a, ha, ea⟩, a', ha', ea'⟩ := DLn_at ls 0 0 kD' k hk
      have ea2 : A2 62 (61 + k) = Int32.ofNat a := by have := ea; rw [Nat.zero_add] at this; exact this
      have ea3 : A2 63 (61 + k) = Int32.ofNat a' := by have := ea'; rw [Nat.zero_add] at this; exact this
      have h61 : A3 61 0 = Int32.ofNat ls.length := by rw [f1 61 (by simp), u_eq, p_eq]
      refine xX9_readText_100 ⟨_, rfl, _, ln_61 (j := 0) (by omega), ?_⟩
      rw [h61, if_pos ((n_lt (by omega) (by omega)).mpr hk), n_61, n_0k, n_succ]
      refine ⟨_, rfl, _, rfl, _, ln_62 (by omega), _, sn_62 (by omega), _, rfl, _, rfl, _, ln_63 (by omega), _, sn_63 (by omega), ih _ ⟨_, rfl, Ag.up (Ag.up f1 (by simp)) (by simp), fun i hi => ?_, fun i hi => ?_⟩⟩
      · show upd (A3 62) k (xm_nar 2 (A3 62 (61 + k))) i = _ ∧ upd (A3 63) k (xm_nar 2 (A3 63 (61 + k))) i = _
        rw [(f3 (61 + k) (by omega)).1, (f3 (61 + k) (by omega)).2, ea2, ea3, nar_2 _ (by omega), nar_2 _ (by omega), ← ea2, ← ea3]
        by_cases e : i = k
        · subst e; rw [p_eq, p_eq]; exact ⟨rfl, rfl⟩
        · rw [p_ne e, p_ne e]; exact f2 i (by omega)
      · show upd (A3 62) k _ i = _ ∧ upd (A3 63) k _ i = _
        rw [p_ne (by omega), p_ne (by omega)]; exact f3 i hi
    · rintro h ⟨A3, rfl, f1, f2, f3⟩
      have h61 : A3 61 0 = Int32.ofNat ls.length := by rw [f1 61 (by simp), u_eq, p_eq]
      refine xX9_readText_100 ⟨_, rfl, _, ln_61 (j := 0) (by omega), ?_⟩
      rw [h61, if_neg (n_ge (by omega) (by omega) (Nat.le_refl _)), ← hG]
      refine xm_pi_i (H A3 (fun k hk => ?_) ⟨h61, fun i hi => ?_, ?_, hm, hl⟩)
      · simp at hk
        rw [f1 k (by simp; omega), u_ne (by omega), e1 k (by simp; omega)]; exact a1 k (by simp; omega)
      · obtain ⟨d1, d2⟩ := c5 i hi
        rw [Nat.zero_add, f1 59 (by simp), f1 60 (by simp)]
        show A2 59 i = _ ∧ A2 60 i = _
        rw [(e2 i hi).1, (e2 i hi).2]; exact ⟨d1, d2⟩
      · refine DLn.to ls 0 0 kD' (fun i hi => ?_)
        rw [Nat.zero_add]
        exact f2 i hi
end TXB
