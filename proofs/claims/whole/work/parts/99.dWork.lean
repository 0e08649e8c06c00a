section TXD
variable {A : Nat → Nat → Int32} {L : Nat → Nat → Int64} {F : Nat → Nat → Int32} {A' F' : Nat → Nat → Int32} {gv : xm_H → Prop} {g : Int32 → xm_H → Prop} {P : Option Value → xm_H → Prop} {K t p r o m v s n k j i q N : Nat} {x x1 x2 y z : Int32} {h : xm_H} {ts acc l l1 l2 : List Nat} {st : List Int32} {fc : Nat → Int32} {f : Nat → Int32} {ls : List (List Nat × Option (List Nat))}
theorem n_m1 (p : Nat) : Int32.ofNat (p + 1) + (-1) = Int32.ofNat p := by
  rw [← n_succ, Int32.add_assoc, show (1 : Int32) + (-1) = 0 by decide, Int32.add_zero]
theorem n_s1000 (hs : 1000 ≤ s) : Int32.ofNat s - 1000 = Int32.ofNat (s - 1000) := by
  obtain ⟨d, rfl⟩ := Nat.exists_eq_add_of_le hs
  rw [Nat.add_sub_cancel_left, Nat.add_comm, ← n_add]
  exact Int32.add_sub_cancel _ _
theorem okTk_lt (h : okTk s) : s < 11000 := by
  rcases h with h | h | h | h | h
  · omega
  · omega
  · omega
  · omega
  · have := ops10 h; omega
theorem okTk_op (h : okTk s) (h1 : ¬ (1000 ≤ s ∨ s < 6)) (h2 : ¬ (s = 33 ∨ s = 126)) : rgN s ≤ 4 := by
  rcases h with h | h | h | h | h
  · omega
  · omega
  · omega
  · omega
  · exact h
theorem ht1_le {m : Nat} (hh : ht1 s k = some m) : m ≤ k + 1 := by
  unfold ht1 at hh
  split at hh
  · have := Option.some.inj hh; omega
  · split at hh
    · split at hh
      · have := Option.some.inj hh; omega
      · cases hh
    · split at hh
      · have := Option.some.inj hh; omega
      · cases hh
theorem ht_un (hu : s = 33 ∨ s = 126) (hh : ht1 s st.length = some m) : ∃ a r, st = a :: r := by
  unfold ht1 at hh
  rw [if_neg (by omega), if_pos hu] at hh
  match st, hh with
  | [], hh => exact absurd hh (by simp)
  | a :: r, _ => exact ⟨a, r, rfl⟩
theorem ht_bi (h1 : ¬ (1000 ≤ s ∨ s < 6)) (h2 : ¬ (s = 33 ∨ s = 126)) (hh : ht1 s st.length = some m) : ∃ b a r, st = b :: a :: r := by
  unfold ht1 at hh
  rw [if_neg h1, if_neg h2] at hh
  match st, hh with
  | [], hh => exact absurd hh (by simp)
  | [a], hh => exact absurd hh (by simp)
  | b :: a :: r, _ => exact ⟨b, a, r, rfl⟩
theorem ev1_un {a : Int32} {r : List Int32} : ev1 fc 33 (a :: r) = (if a = 0 then 1 else 0) :: r ∧ ev1 fc 126 (a :: r) = (-a) :: r := ⟨rfl, rfl⟩
theorem ev1_bi {a b : Int32} {r : List Int32} (h1 : ¬ (1000 ≤ s ∨ s < 6)) (h2 : ¬ (s = 33 ∨ s = 126)) : ev1 fc s (b :: a :: r) = two s a b :: r := by
  unfold ev1
  rw [if_neg (by omega), if_neg (by omega), if_neg (by omega), if_neg (by omega)]
theorem ev1_nm (h1 : ¬ 1000 ≤ s) (h2 : s < 6) : ev1 (cut6 f) s st = f s :: st := by
  unfold ev1
  rw [if_neg h1, if_pos h2, show cut6 f s = f s from if_pos h2]
theorem ev1_nb (h1 : 1000 ≤ s) : ev1 fc s st = Int32.ofNat (s - 1000) :: st := by
  unfold ev1
  rw [if_pos h1]
/-- one sign, by the class -/
theorem w_one (hK : 0 < K) (h6 : F 6 1 = Int32.ofNat N) (hN : N ≤ 121) (hq : q < N) (h7 : A 7 q = Int32.ofNat s) (hs : okTk s) (hh : ht1 s st.length = some m) (hl : st.length ≤ q) (ha : Ag [8] A A') (hk : SkR (A' 8) st) (H : ∀ A2, Ag [8] A A2 → SkR (A2 8) (ev1 (cut6 (A 9)) s st) → xm_L K sX6_workOut kX6_workOut 4 [some (.ref 6), some (.ref 9), some (.int (Int32.ofNat m)), some (.int (Int32.ofNat (q + 1))), none, none] [] (HP A2 L F) P) : xm_L K sX6_workOut kX6_workOut 4 [some (.ref 6), some (.ref 9), some (.int (Int32.ofNat st.length)), some (.int (Int32.ofNat q)), none, none] [] (HP A' L F) P := by
  have e7 : A' 7 = A 7 := ha 7 (by simp)
  have e9 : A' 9 = A 9 := ha 9 (by simp)
  have el := ev1_len (fc := cut6 (A 9)) hh
  have hs2 := okTk_lt hs
  have h128 : Int32.ofNat st.length < (128 : Int32) := (n_lt (q := 128) (by omega) (by omega)).mpr (by omega)
  refine xX6_workOut_4 ⟨_, rfl, ?_⟩
  rw [h6, if_pos ((n_lt (by omega) (by omega)).mpr hq)]
  refine ⟨_, rfl, _, ln_7 (by omega), ?_⟩
  rw [e7, h7, if_neg (xs_nn (by omega))]
  by_cases hb : 1000 ≤ s
  · have n1000 : ¬ Int32.ofNat s < (1000 : Int32) := n_ge (q := 1000) (by omega) (by omega) hb
    rw [if_neg (show ¬ Int32.ofNat s < (6 : Int32) from n_ge (q := 6) (by omega) (by omega) (by omega)), if_neg n1000, if_pos h128]
    refine ⟨_, rfl, ?_⟩
    rw [if_neg n1000, n_s1000 hb, n_succ, n_succ]
    refine ⟨_, sn_8 (by omega), ?_⟩
    subst el
    rw [ev1_nb hb] at H
    exact H _ (Ag.up ha (by simp)) (by rw [u_eq]; exact hk.push)
  have p1000 : Int32.ofNat s < (1000 : Int32) := (n_lt (q := 1000) (by omega) (by omega)).mpr (by omega)
  by_cases hn : s < 6
  · rw [if_pos (show Int32.ofNat s < (6 : Int32) from (n_lt (q := 6) (by omega) (by omega)).mpr hn), if_pos h128]
    refine ⟨_, rfl, ?_⟩
    rw [if_pos p1000, n_succ, n_succ]
    refine ⟨_, ln_9 hn, _, sn_8 (by omega), ?_⟩
    subst el
    rw [ev1_nm hb hn] at H
    exact H _ (Ag.up ha (by simp)) (by rw [u_eq, e9]; exact hk.push)
  rw [if_neg (show ¬ Int32.ofNat s < (6 : Int32) from n_ge (q := 6) (by omega) (by omega) (by omega)), if_pos p1000]
  by_cases hu : s = 33 ∨ s = 126
  · obtain ⟨a, r, rfl⟩ := ht_un hu hh
    have hlr : r.length + 1 ≤ q := hl
    rw [show (a :: r).length = r.length + 1 from rfl, if_neg (show ¬ Int32.ofNat (r.length + 1) < (1 : Int32) from n_ge (q := 1) (by omega) (by omega) (by omega)), n_pred, n_succ]
    refine ⟨_, rfl, _, ln_8 (by omega), ?_⟩
    rw [show A' 8 r.length = a from hk.1]
    subst el
    rcases hu with rfl | rfl
    · rw [if_neg (show ¬ Int32.ofNat 33 = (59 : Int32) by decide), if_neg (show ¬ Int32.ofNat 33 < (0 : Int32) by decide), if_pos (show Int32.ofNat 33 = (33 : Int32) by decide)]
      refine ⟨_, rfl, ?_⟩
      rw [if_neg (show ¬ Int32.ofNat 33 = (126 : Int32) by decide)]
      rw [ev1_un.1] at H
      by_cases a0 : a = 0
      · rw [if_pos a0]
        rw [if_pos a0] at H
        exact ⟨_, sn_8 (by omega), H _ (Ag.up ha (by simp)) (by rw [u_eq]; exact ⟨p_eq, SkR.up r _ _ hk.2 (Nat.le_refl _)⟩)⟩
      · rw [if_neg a0]
        rw [if_neg a0] at H
        exact ⟨_, sn_8 (by omega), H _ (Ag.up ha (by simp)) (by rw [u_eq]; exact ⟨p_eq, SkR.up r _ _ hk.2 (Nat.le_refl _)⟩)⟩
    · rw [if_neg (show ¬ Int32.ofNat 126 = (59 : Int32) by decide), if_neg (show ¬ Int32.ofNat 126 < (0 : Int32) by decide), if_neg (show ¬ Int32.ofNat 126 = (33 : Int32) by decide), if_pos (show Int32.ofNat 126 = (126 : Int32) by decide)]
      refine ⟨_, rfl, ?_⟩
      rw [if_pos (show Int32.ofNat 126 = (126 : Int32) by decide)]
      rw [ev1_un.2] at H
      exact ⟨_, sn_8 (by omega), H _ (Ag.up ha (by simp)) (by rw [u_eq]; exact ⟨p_eq, SkR.up r _ _ hk.2 (Nat.le_refl _)⟩)⟩
  · have hno : ¬ (1000 ≤ s ∨ s < 6) := by omega
    have hop := okTk_op hs hno hu
    have h10 := ops10 hop
    have ne : ∀ c : Nat, c < 128 → s ≠ c → ¬ Int32.ofNat s = Int32.ofNat c := fun c hc hsc z => hsc ((n_eq (by omega) (by omega)).mp z)
    obtain ⟨b, a, r, rfl⟩ := ht_bi hno hu hh
    have hlr : r.length + 1 + 1 ≤ q := hl
    rw [show (b :: a :: r).length = r.length + 1 + 1 from rfl, if_neg (show ¬ Int32.ofNat (r.length + 1 + 1) < (1 : Int32) from n_ge (q := 1) (by omega) (by omega) (by omega)), n_pred, n_succ]
    refine ⟨_, rfl, _, ln_8 (by omega), ?_⟩
    rw [show A' 8 (r.length + 1) = b from hk.1, if_neg (show ¬ Int32.ofNat s = (59 : Int32) from ne 59 (by omega) (by omega)), if_neg (xs_nn (by omega)), if_neg (show ¬ Int32.ofNat s = (33 : Int32) from ne 33 (by omega) (by omega)), if_neg (show ¬ Int32.ofNat s = (126 : Int32) from ne 126 (by omega) (by omega)), if_neg (show ¬ Int32.ofNat (r.length + 1 + 1) < (2 : Int32) from n_ge (q := 2) (by omega) (by omega) (by omega)), n_m1, n_pred]
    refine ⟨_, rfl, _, rfl, _, ln_8 (by omega), ?_⟩
    rw [show A' 8 r.length = a from hk.2.1]
    subst el
    rw [ev1_bi hno hu] at H
    exact c_combine hK hop ⟨_, sn_8 (by omega), H _ (Ag.up ha (by simp)) (by rw [u_eq]; exact ⟨p_eq, SkR.up r _ _ hk.2.2 (Nat.le_refl _)⟩)⟩
theorem w_seg (hK : 0 < K) (h6 : F 6 1 = Int32.ofNat N) (hN : N ≤ 121) : ∀ (l : List Nat) (st : List Int32) (q : Nat) (A' : Nat → Nat → Int32), (∀ s ∈ l, okTk s) → (∃ k, htS l st.length = some k) → (∀ i, i < l.length → A 7 (q + i) = Int32.ofNat (l.getD i 0)) → st.length ≤ q → q + l.length ≤ N → Ag [8] A A' → SkR (A' 8) st → (∀ A2, Ag [8] A A2 → SkR (A2 8) (evT (cut6 (A 9)) l st) → xm_L K sX6_workOut kX6_workOut 4 [some (.ref 6), some (.ref 9), some (.int (Int32.ofNat (evT (cut6 (A 9)) l st).length)), some (.int (Int32.ofNat (q + l.length))), none, none] [] (HP A2 L F) P) → xm_L K sX6_workOut kX6_workOut 4 [some (.ref 6), some (.ref 9), some (.int (Int32.ofNat st.length)), some (.int (Int32.ofNat q)), none, none] [] (HP A' L F) P
  | [], st, q, A', _, _, _, _, _, ha, hk, H => H A' ha hk
  | s :: l, st, q, A', hok, hh, h7, hl, hN2, ha, hk, H => by
    obtain ⟨k, hk0⟩ := hh
    obtain ⟨m, e1, e2⟩ := Option.bind_eq_some_iff.mp hk0
    have el := ev1_len (fc := cut6 (A 9)) e1
    have le := ht1_le e1
    have len : (s :: l).length = l.length + 1 := rfl
    rw [len] at hN2
    refine w_one hK h6 hN (by omega) (h7 0 (by rw [len]; omega)) (hok s (by simp)) e1 hl ha hk (fun A2 a2 k2 => ?_)
    rw [← el]
    refine w_seg hK h6 hN l (ev1 (cut6 (A 9)) s st) (q + 1) A2 (fun c hc => hok c (by simp [hc])) ⟨k, by rw [el]; exact e2⟩ (fun i hi => ?_) (by omega) (by omega) a2 k2 (fun A3 a3 k3 => ?_)
    · have := h7 (i + 1) (by rw [len]; omega)
      rw [show q + (i + 1) = q + 1 + i by omega] at this
      exact this
    · have := H A3 a3 k3
      rw [len, show q + (l.length + 1) = q + 1 + l.length by omega] at this
      exact this
def SegC (f : Nat → Int32) (n : Nat) (l : List Nat) : Prop := ∀ i, i < l.length → f (n + i) = Int32.ofNat (l.getD i 0)
def CdC (f : Nat → Int32) (N : Nat) : List (List Nat × Option (List Nat)) → Nat → Prop
  | [], q => q = N
  | (l1, none) :: r, q => (SegC f q l1 ∧ f (q + l1.length) = 59 ∧ q + l1.length + 1 ≤ N) ∧ CdC f N r (q + l1.length + 1)
  | (l1, some l2) :: r, q => (SegC f q l1 ∧ f (q + l1.length) = -(Int32.ofNat (q + l1.length + 1 + l2.length)) ∧ SegC f (q + l1.length + 1) l2 ∧ f (q + l1.length + 1 + l2.length) = 59 ∧ q + l1.length + 1 + l2.length + 1 ≤ N) ∧ CdC f N r (q + l1.length + 1 + l2.length + 1)
theorem w_end (h6 : F 6 1 = Int32.ofNat N) (hN : N ≤ 121) (hq : q < N) (h7 : A 7 q = 59) (ha : Ag [8] A A') (hk : SkR (A' 8) [x]) (H : P (some (.int x)) (HP A' L F)) : xm_L K sX6_workOut kX6_workOut 4 [some (.ref 6), some (.ref 9), some (.int (Int32.ofNat [x].length)), some (.int (Int32.ofNat q)), none, none] [] (HP A' L F) P := by
  have e7 : A' 7 = A 7 := ha 7 (by simp)
  refine xX6_workOut_4 ⟨_, rfl, ?_⟩
  rw [h6, if_pos ((n_lt (by omega) (by omega)).mpr hq)]
  refine ⟨_, rfl, _, ln_7 (by omega), ?_⟩
  rw [e7, h7, if_neg (show ¬ (59 : Int32) < 0 by decide), if_neg (show ¬ (59 : Int32) < 6 by decide), if_pos (show (59 : Int32) < 1000 by decide), show Int32.ofNat [x].length = Int32.ofNat 1 from rfl, if_neg (show ¬ Int32.ofNat 1 < (1 : Int32) by decide), show Int32.ofNat 1 - (1 : Int32) = Int32.ofNat 0 by decide]
  refine ⟨_, rfl, _, ln_8 (by omega), ?_⟩
  rw [if_pos rfl, show A' 8 0 = x from hk.1]
  exact H
theorem n_neg : ∀ M, M < 130 → 0 < M → -(Int32.ofNat M) < 0 ∧ -(Int32.ofNat M) < 1000 ∧ (¬ -(Int32.ofNat M) = 59) ∧ -(-(Int32.ofNat M)) = Int32.ofNat M := by decide +kernel
theorem w_lines (hK : 0 < K) (h6 : F 6 1 = Int32.ofNat N) (hN : N ≤ 121) : ∀ (ls : List (List Nat × Option (List Nat))) (q : Nat) (A' : Nat → Nat → Int32), CdC (A 7) N ls q → (∀ c ∈ ls, GdL c) → Ag [8] A A' → (∀ A2, Ag [8] A A2 → P (some (.int (evLs ls (cut6 (A 9))))) (HP A2 L F)) → xm_L K sX6_workOut kX6_workOut 4 [some (.ref 6), some (.ref 9), some (.int 0), some (.int (Int32.ofNat q)), none, none] [] (HP A' L F) P
  | [], q, A', hc, _, ha, H => by
    have hc' : q = N := hc
    subst hc'
    refine xX6_workOut_4 ⟨_, rfl, ?_⟩
    rw [h6, if_neg (n_ge (by omega) (by omega) (Nat.le_refl _))]
    exact H A' ha
  | (l1, none) :: r, q, A', hc, hg, ha, H => by
    obtain ⟨⟨c1, c2, c3⟩, c4⟩ := hc
    obtain ⟨⟨g1, g2⟩, -⟩ := hg (l1, none) (by simp)
    have g1' : Gd l1 := g1
    refine w_seg hK h6 hN l1 [] q A' g1'.2 ⟨1, g1'.1 0⟩ c1 (Nat.zero_le _) (by omega) ha trivial (fun A2 a2 k2 => ?_)
    rw [vl_eq g1'] at k2 ⊢
    exact w_end h6 hN (by omega) c2 a2 k2 (H A2 a2)
  | (l1, some l2) :: r, q, A', hc, hg, ha, H => by
    obtain ⟨⟨c1, c2, c3, c4, c5⟩, c6⟩ := hc
    obtain ⟨⟨g1, g2⟩, g3⟩ := hg (l1, some l2) (by simp)
    have g1' : Gd l1 := g1
    have g3' : Gd l2 := g3 l2 rfl
    obtain ⟨m1, m2, m3, m4⟩ := n_neg (q + l1.length + 1 + l2.length) (by omega) (by omega)
    refine w_seg hK h6 hN l1 [] q A' g1'.2 ⟨1, g1'.1 0⟩ c1 (Nat.zero_le _) (by omega) ha trivial (fun A2 a2 k2 => ?_)
    rw [vl_eq g1'] at k2 ⊢
    have e7 : A2 7 = A 7 := a2 7 (by simp)
    refine xX6_workOut_4 ⟨_, rfl, ?_⟩
    rw [h6, if_pos ((n_lt (by omega) (by omega)).mpr (show q + l1.length < N by omega))]
    refine ⟨_, rfl, _, ln_7 (by omega), ?_⟩
    rw [e7, c2, if_pos m1, if_pos m2, show Int32.ofNat [vlS (cut6 (A 9)) l1].length = Int32.ofNat 1 from rfl, if_neg (show ¬ Int32.ofNat 1 < (1 : Int32) by decide), show Int32.ofNat 1 - (1 : Int32) = Int32.ofNat 0 by decide]
    refine ⟨_, rfl, _, ln_8 (by omega), ?_⟩
    rw [show A2 8 0 = vlS (cut6 (A 9)) l1 from k2.1, if_neg m3, if_pos m1]
    have ee : evLs ((l1, some l2) :: r) (cut6 (A 9)) = if vlS (cut6 (A 9)) l1 = 0 then evLs r (cut6 (A 9)) else vlS (cut6 (A 9)) l2 := rfl
    rw [ee] at H
    by_cases v0 : vlS (cut6 (A 9)) l1 = 0
    · rw [if_pos v0, m4]
      rw [if_pos v0] at H
      refine c_max hK ?_
      try dsimp only
      rw [if_pos ((n_lt (by omega) (by omega)).mpr (show q + l1.length < q + l1.length + 1 + l2.length by omega)), n_succ]
      exact w_lines hK h6 hN r _ A2 c6 (fun c hc => hg c (by simp [hc])) a2 H
    · rw [if_neg v0, n_succ]
      rw [if_neg v0] at H
      refine w_seg hK h6 hN l2 [] (q + l1.length + 1) A2 g3'.2 ⟨1, g3'.1 0⟩ c3 (Nat.zero_le _) (by omega) a2 trivial (fun A3 a3 k3 => ?_)
      rw [vl_eq g3'] at k3 ⊢
      exact w_end h6 hN (by omega) c4 a3 k3 (H A3 a3)
theorem Ag.one {c : Nat} {B : Nat → Nat → Int32} (h : Ag [c] A B) : B = va_up A c (B c) := by
  funext k
  by_cases e : k = c
  · subst e; rw [u_eq]
  · rw [u_ne e]; exact h k (by simp [e])
theorem TXok_of (h6 : F 6 1 = Int32.ofNat N) (hN0 : 0 < N) (hN : N ≤ 121) (hc : CdC (A 7) N ls 0) (hg : ∀ c ∈ ls, GdL c) : TXok A F (evLs ls) := by
  refine Or.inr ⟨fun z => ?_, fun A' L' F' g a7 f6 H => ?_⟩
  · rw [h6] at z
    have := (n_eq (p := N) (q := 0) (by omega) (by omega)).mp z
    omega
  · refine eX6_workOut (K := 2) (by omega) ⟨_, rfl⟩ (w_lines (A := A') (N := N) (by omega) (by rw [f6]; exact h6) hN ls 0 A' (by rw [a7]; exact hc) hg Ag.rf (fun A2 a2 => xm_pi_i ?_))
    rw [Ag.one a2]
    exact H (A2 8)
end TXD
