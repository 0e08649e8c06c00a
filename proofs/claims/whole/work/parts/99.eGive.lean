section TXE
variable {A : Nat → Nat → Int32} {L : Nat → Nat → Int64} {F : Nat → Nat → Int32} {A' F' : Nat → Nat → Int32} {gv : xm_H → Prop} {g : Int32 → xm_H → Prop} {P : Option Value → xm_H → Prop} {K t p r o m v s n k j i q e N : Nat} {x x1 x2 y z : Int32} {h : xm_H} {ts acc l l1 l2 : List Nat} {st : List Int32} {fc : Nat → Int32} {f : Nat → Int32} {ls : List (List Nat × Option (List Nat))}
/-- one sign, by the reference -/
theorem v_one (hK : 0 < K) (he : e ≤ 120) (hq : q < e) (h59 : A 59 q = Int32.ofNat (aOf s)) (h60 : A 60 q = Int32.ofNat (wOf s)) (hs : okTk s) (hh : ht1 s st.length = some m) (hl : st.length ≤ q) (ha : Ag [65] A A') (hk : SkR (A' 65) st) (H : ∀ A2, Ag [65] A A2 → SkR (A2 65) (ev1 (cut6 (A 64)) s st) → xm_L K sX9_worked kX9_worked 8 [some (.ref 44), some (.int 0), none, some (.int (Int32.ofNat e)), some (.int (Int32.ofNat m)), some (.int (Int32.ofNat (q + 1))), none] [] (HP A2 L F) P) : xm_L K sX9_worked kX9_worked 8 [some (.ref 44), some (.int 0), none, some (.int (Int32.ofNat e)), some (.int (Int32.ofNat st.length)), some (.int (Int32.ofNat q)), none] [] (HP A' L F) P := by
  have e59 : A' 59 = A 59 := ha 59 (by simp)
  have e60 : A' 60 = A 60 := ha 60 (by simp)
  have e64 : A' 64 = A 64 := ha 64 (by simp)
  have el := ev1_len (fc := cut6 (A 64)) hh
  have hs2 := okTk_lt hs
  refine xX9_worked_8 ?_
  rw [n_0k, if_pos ((n_lt (by omega) (by omega)).mpr hq)]
  refine ⟨_, rfl, _, ln_59 (by omega), ?_⟩
  rw [e59, h59]
  by_cases hb : 1000 ≤ s
  · rw [show aOf s = 1 from if_pos hb, if_pos (show Int32.ofNat 1 = (1 : Int32) by decide)]
    refine ⟨_, rfl, ?_⟩
    rw [if_pos (show Int32.ofNat 1 = (1 : Int32) by decide), n_succ, n_succ]
    refine ⟨_, rfl, _, ln_60 (by omega), ?_⟩
    rw [e60, h60, show wOf s = s - 1000 from if_pos hb]
    refine ⟨_, sn_65 (by omega), ?_⟩
    subst el
    rw [ev1_nb hb] at H
    exact H _ (Ag.up ha (by simp)) (by rw [u_eq]; exact hk.push)
  by_cases hn : s < 6
  · have ea : aOf s = 2 := by unfold aOf; rw [if_neg hb, if_pos hn]
    have ew : wOf s = s := by unfold wOf; rw [if_neg hb, if_pos hn]
    rw [ea, if_neg (show ¬ Int32.ofNat 2 = (1 : Int32) by decide), if_pos (show Int32.ofNat 2 = (2 : Int32) by decide)]
    refine ⟨_, rfl, ?_⟩
    rw [if_neg (show ¬ Int32.ofNat 2 = (1 : Int32) by decide), n_succ, n_succ]
    refine ⟨_, rfl, _, rfl, _, ln_60 (by omega), ?_⟩
    rw [e60, h60, ew]
    refine ⟨_, ln_64 hn, _, sn_65 (by omega), ?_⟩
    subst el
    rw [ev1_nm hb hn] at H
    exact H _ (Ag.up ha (by simp)) (by rw [u_eq, e64]; exact hk.push)
  by_cases hu : s = 33 ∨ s = 126
  · obtain ⟨a, r, rfl⟩ := ht_un hu hh
    have hlr : r.length + 1 ≤ q := hl
    subst el
    rcases hu with rfl | rfl
    · rw [show aOf 33 = 3 from rfl, if_neg (show ¬ Int32.ofNat 3 = (1 : Int32) by decide), if_neg (show ¬ Int32.ofNat 3 = (2 : Int32) by decide), if_pos (show Int32.ofNat 3 = (3 : Int32) by decide), show (a :: r).length = r.length + 1 from rfl, n_pred, n_succ]
      refine ⟨_, rfl, _, rfl, _, ln_65 (by omega), ?_⟩
      rw [show A' 65 r.length = a from hk.1]
      rw [ev1_un.1] at H
      by_cases a0 : a = 0
      · rw [if_pos a0]
        rw [if_pos a0] at H
        exact ⟨_, sn_65 (by omega), H _ (Ag.up ha (by simp)) (by rw [u_eq]; exact ⟨p_eq, SkR.up r _ _ hk.2 (Nat.le_refl _)⟩)⟩
      · rw [if_neg a0]
        rw [if_neg a0] at H
        exact ⟨_, sn_65 (by omega), H _ (Ag.up ha (by simp)) (by rw [u_eq]; exact ⟨p_eq, SkR.up r _ _ hk.2 (Nat.le_refl _)⟩)⟩
    · rw [show aOf 126 = 4 from rfl, if_neg (show ¬ Int32.ofNat 4 = (1 : Int32) by decide), if_neg (show ¬ Int32.ofNat 4 = (2 : Int32) by decide), if_neg (show ¬ Int32.ofNat 4 = (3 : Int32) by decide), if_pos (show Int32.ofNat 4 = (4 : Int32) by decide), show (a :: r).length = r.length + 1 from rfl, n_pred, n_succ]
      refine ⟨_, rfl, _, rfl, _, ln_65 (by omega), ?_⟩
      rw [show A' 65 r.length = a from hk.1]
      rw [ev1_un.2] at H
      exact ⟨_, sn_65 (by omega), H _ (Ag.up ha (by simp)) (by rw [u_eq]; exact ⟨p_eq, SkR.up r _ _ hk.2 (Nat.le_refl _)⟩)⟩
  · have hno : ¬ (1000 ≤ s ∨ s < 6) := by omega
    have hop := okTk_op hs hno hu
    have h10 := ops10 hop
    have ea : aOf s = s := by unfold aOf; rw [if_neg hb, if_neg hn, if_neg (by omega), if_neg (by omega)]
    have ne : ∀ c : Nat, c < 128 → s ≠ c → ¬ Int32.ofNat s = Int32.ofNat c := fun c hc hsc z => hsc ((n_eq (by omega) (by omega)).mp z)
    obtain ⟨b, a, r, rfl⟩ := ht_bi hno hu hh
    have hlr : r.length + 1 + 1 ≤ q := hl
    rw [ea, if_neg (show ¬ Int32.ofNat s = (1 : Int32) from ne 1 (by omega) (by omega)), if_neg (show ¬ Int32.ofNat s = (2 : Int32) from ne 2 (by omega) (by omega)), if_neg (show ¬ Int32.ofNat s = (3 : Int32) from ne 3 (by omega) (by omega)), if_neg (show ¬ Int32.ofNat s = (4 : Int32) from ne 4 (by omega) (by omega)), show (b :: a :: r).length = r.length + 1 + 1 from rfl, n_m1, n_pred, n_succ]
    refine ⟨_, rfl, _, rfl, _, ln_65 (by omega), _, rfl, _, ln_65 (by omega), ?_⟩
    rw [show A' 65 (r.length + 1) = b from hk.1, show A' 65 r.length = a from hk.2.1]
    subst el
    rw [ev1_bi hno hu] at H
    exact m_twoOf hK hop ⟨_, sn_65 (by omega), H _ (Ag.up ha (by simp)) (by rw [u_eq]; exact ⟨p_eq, SkR.up r _ _ hk.2.2 (Nat.le_refl _)⟩)⟩
theorem v_seg (hK : 0 < K) (he : e ≤ 120) : ∀ (l : List Nat) (st : List Int32) (q : Nat) (A' : Nat → Nat → Int32), (∀ s ∈ l, okTk s) → (∃ k, htS l st.length = some k) → SegM A q l → st.length ≤ q → q + l.length = e → Ag [65] A A' → SkR (A' 65) st → (∀ A2, Ag [65] A A2 → SkR (A2 65) (evT (cut6 (A 64)) l st) → xm_L K sX9_worked kX9_worked 8 [some (.ref 44), some (.int 0), none, some (.int (Int32.ofNat e)), some (.int (Int32.ofNat (evT (cut6 (A 64)) l st).length)), some (.int (Int32.ofNat e)), none] [] (HP A2 L F) P) → xm_L K sX9_worked kX9_worked 8 [some (.ref 44), some (.int 0), none, some (.int (Int32.ofNat e)), some (.int (Int32.ofNat st.length)), some (.int (Int32.ofNat q)), none] [] (HP A' L F) P
  | [], st, q, A', _, _, _, _, hq, ha, hk, H => by
    have hq' : q = e := hq
    subst hq'
    exact H A' ha hk
  | s :: l, st, q, A', hok, hh, h7, hl, hN2, ha, hk, H => by
    obtain ⟨k, hk0⟩ := hh
    obtain ⟨m, e1, e2⟩ := Option.bind_eq_some_iff.mp hk0
    have el := ev1_len (fc := cut6 (A 64)) e1
    have le := ht1_le e1
    have len : (s :: l).length = l.length + 1 := rfl
    rw [len] at hN2
    have h0 := h7 0 (by rw [len]; omega)
    refine v_one hK he (by omega) h0.1 h0.2 (hok s (by simp)) e1 hl ha hk (fun A2 a2 k2 => ?_)
    rw [← el]
    refine v_seg hK he l (ev1 (cut6 (A 64)) s st) (q + 1) A2 (fun c hc => hok c (by simp [hc])) ⟨k, by rw [el]; exact e2⟩ (fun i hi => ?_) (by omega) (by omega) a2 k2 H
    have := h7 (i + 1) (by rw [len]; omega)
    rw [show q + (i + 1) = q + 1 + i by omega] at this
    exact this
theorem v_worked (hK : 1 < K) (hg : Gd l) (hs : SegM A n l) (he : n + l.length = e) (h120 : e ≤ 120) (ha : Ag [65] A A') (H : ∀ A2, Ag [65] A A2 → g (vlS (cut6 (A 64)) l) (HP A2 L F)) : xm_Call K sX9_worked 9 [.ref 44, .int 0, .int (Int32.ofNat n), .int (Int32.ofNat e)] (HP A' L F) (xm_pi g) := by
  refine eX9_worked (K := 1) hK ⟨_, rfl⟩ ?_
  rw [n_0k]
  refine v_seg (by omega) h120 l [] n A' hg.2 ⟨1, hg.1 0⟩ hs (Nat.zero_le _) he ha trivial (fun A2 a2 k2 => ?_)
  rw [vl_eq hg] at k2 ⊢
  refine xX9_worked_8 ?_
  rw [n_0k, if_neg (n_ge (by omega) (by omega) (Nat.le_refl _))]
  refine ⟨_, rfl, _, ln_65 (j := 0) (by omega), xm_pi_i ?_⟩
  rw [show A2 65 0 = vlS (cut6 (A 64)) l from k2.1]
  exact H A2 a2
theorem v_lines (hK : 2 ≤ K) (h61 : A 61 0 = Int32.ofNat N) (hN : N ≤ 61) : ∀ (ls : List (List Nat × Option (List Nat))) (j n : Nat) (A' : Nat → Nat → Int32), DLn (A 62) (A 63) ls j n → SegM A n (ctS ls) → n + (ctS ls).length ≤ 120 → j + ls.length = N → (∀ c ∈ ls, GdL c) → Ag [65] A A' → (∀ A2, Ag [65] A A2 → P (some (.int (evLs ls (cut6 (A 64))))) (HP A2 L F)) → xm_L K sX9_givesText kX9_givesText 6 [some (.ref 44), some (.int 0), some (.int (Int32.ofNat n)), some (.int (Int32.ofNat j))] [] (HP A' L F) P
  | [], j, n, A', _, _, _, hj, _, ha, H => by
    have hj' : j = N := hj
    subst hj'
    have e61 : A' 61 = A 61 := ha 61 (by simp)
    refine xX9_givesText_6 ⟨_, rfl, _, ln_61 (j := 0) (by omega), ?_⟩
    rw [e61, h61, n_0k, if_neg (n_ge (by omega) (by omega) (Nat.le_refl _))]
    exact H A' ha
  | (l1, none) :: r, j, n, A', hd, hs, hn, hj, hg, ha, H => by
    have e61 : A' 61 = A 61 := ha 61 (by simp)
    have e62 : A' 62 = A 62 := ha 62 (by simp)
    have e63 : A' 63 = A 63 := ha 63 (by simp)
    obtain ⟨d1, d2, -⟩ := hd
    have d1' : A 62 j = Int32.ofNat n := d1
    have d2' : A 63 j = Int32.ofNat (n + l1.length) := d2
    have lenj : ((l1, (none : Option (List Nat))) :: r).length = r.length + 1 := rfl
    rw [lenj] at hj
    have lens : (ctS ((l1, none) :: r)).length = l1.length + (ctS r).length := by show (l1 ++ ctS r).length = _; rw [List.length_append]
    rw [lens] at hn
    have hs' : SegM A n (l1 ++ ctS r) := hs
    obtain ⟨⟨g1, g2⟩, -⟩ := hg (l1, none) (by simp)
    refine xX9_givesText_6 ⟨_, rfl, _, ln_61 (j := 0) (by omega), ?_⟩
    rw [e61, h61, n_0k, if_pos ((n_lt (by omega) (by omega)).mpr (show j < N by omega))]
    refine ⟨_, rfl, _, ln_62 (by omega), ?_⟩
    rw [e62, d1', if_pos rfl]
    refine ⟨_, rfl, _, ln_62 (by omega), _, rfl, _, ln_63 (by omega), ?_⟩
    rw [e62, e63, d1', d2']
    exact v_worked (by omega) g1 hs'.app.1 rfl (by omega) ha H
  | (l1, some l2) :: r, j, n, A', hd, hs, hn, hj, hg, ha, H => by
    have e61 : A' 61 = A 61 := ha 61 (by simp)
    have e62 : A' 62 = A 62 := ha 62 (by simp)
    have e63 : A' 63 = A 63 := ha 63 (by simp)
    obtain ⟨d1, d2, d3⟩ := hd
    have d1' : A 62 j = Int32.ofNat (n + l1.length) := d1
    have len12 : (l1 ++ l2).length = l1.length + l2.length := List.length_append
    have d2' : A 63 j = Int32.ofNat (n + l1.length + l2.length) := by rw [Nat.add_assoc, ← len12]; exact d2
    have d3' : DLn (A 62) (A 63) r (j + 1) (n + l1.length + l2.length) := by rw [Nat.add_assoc, ← len12]; exact d3
    have lenj : ((l1, some l2) :: r).length = r.length + 1 := rfl
    rw [lenj] at hj
    have lens : (ctS ((l1, some l2) :: r)).length = l1.length + l2.length + (ctS r).length := by show (l1 ++ l2 ++ ctS r).length = _; rw [List.length_append, len12]
    rw [lens] at hn
    have hs' : SegM A n (l1 ++ l2 ++ ctS r) := hs
    obtain ⟨s1, s2⟩ := hs'.app
    obtain ⟨s3, s4⟩ := s1.app
    rw [len12, ← Nat.add_assoc] at s2
    obtain ⟨⟨g1, g2⟩, g3⟩ := hg (l1, some l2) (by simp)
    have g2' : 0 < l1.length := g2
    refine xX9_givesText_6 ⟨_, rfl, _, ln_61 (j := 0) (by omega), ?_⟩
    rw [e61, h61, n_0k, if_pos ((n_lt (by omega) (by omega)).mpr (show j < N by omega))]
    refine ⟨_, rfl, _, ln_62 (by omega), ?_⟩
    rw [e62, d1', if_neg (fun z => by have := (n_eq (by omega) (by omega)).mp z; omega)]
    refine ⟨_, rfl, _, ln_62 (by omega), ?_⟩
    rw [e62, d1']
    have ee : evLs ((l1, some l2) :: r) (cut6 (A 64)) = if vlS (cut6 (A 64)) l1 = 0 then evLs r (cut6 (A 64)) else vlS (cut6 (A 64)) l2 := rfl
    rw [ee] at H
    refine v_worked (by omega) g1 s3 rfl (by omega) ha (fun A2 a2 => ?_)
    have f62 : A2 62 = A 62 := a2 62 (by simp)
    have f63 : A2 63 = A 63 := a2 63 (by simp)
    by_cases v0 : vlS (cut6 (A 64)) l1 = 0
    · rw [if_pos v0] at H
      rw [if_pos v0]
      refine ⟨_, rfl, _, ln_63 (by omega), ?_⟩
      rw [f63, d2', n_succ]
      exact v_lines hK h61 hN r (j + 1) _ A2 d3' s2 (by omega) (by omega) (fun c hc => hg c (by simp [hc])) a2 H
    · rw [if_neg v0] at H
      rw [if_neg v0]
      refine ⟨_, rfl, _, ln_62 (by omega), _, rfl, _, ln_63 (by omega), ?_⟩
      rw [f62, f63, d1', d2']
      exact v_worked (by omega) (g3 l2 rfl) s4 rfl (by omega) a2 H
theorem TXm_of (h30 : F 44 30 ≠ 0) (hd : DM A ls) (hg : ∀ c ∈ ls, GdL c) : TXm A F (evLs ls) := by
  obtain ⟨d1, d2, d3, d4, d5⟩ := hd
  refine Or.inr ⟨h30, fun A' L' F' g c1 c2 c3 c4 c5 H => ?_⟩
  refine eX9_givesText (K := 2) (by omega) ⟨_, rfl⟩ ?_
  rw [Int32.mul_zero]
  refine v_lines (A := A') (by omega) (c3.trans d1) d4 ls 0 0 A' (DLn.to ls 0 0 d3 (fun i hi => ?_)) (fun i hi => ?_) (by omega) (by omega) hg Ag.rf (fun A2 a2 => xm_pi_i ?_)
  · rw [Nat.zero_add]; exact ⟨c4 i (by omega), c5 i (by omega)⟩
  · rw [c1 _ (by omega), c2 _ (by omega)]; exact d2 i hi
  · rw [Ag.one a2]
    exact H (A2 65)
end TXE
