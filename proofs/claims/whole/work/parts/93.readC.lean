section RDC
variable {A : Nat → Nat → Int32} {L : Nat → Nat → Int64} {F : Nat → Nat → Int32} {A' F' : Nat → Nat → Int32} {gv : xm_H → Prop} {g : Int32 → xm_H → Prop} {sg : Nat → Nat} {K t p r o m v s n k f ch : Nat} {x x1 x2 z : Int32} {h : xm_H} {cs : List Int32} {acc l : List Nat}
/-- the int x stands for the letter s -/
def Sgn (x : Int32) (s : Nat) : Prop := (s < 128 ∧ x = Int32.ofNat s) ∨ (128 ≤ s ∧ (x < 0 ∨ 127 < x))
theorem Sgn.eq (h : Sgn x s) (hc : ch < 128) : x = Int32.ofNat ch ↔ s = ch := by
  rcases h with ⟨h1, h2⟩ | ⟨h1, h2⟩
  · rw [h2]; exact n_eq (by omega) (by omega)
  · refine ⟨fun q => ?_, fun q => absurd q (by omega)⟩
    subst q
    rcases h2 with h2 | h2
    · exact absurd h2 (xs_nn (by omega))
    · exact absurd ((n_lt (p := 127) (by omega) (by omega)).mp h2) (by omega)
theorem Sgn.dig (h : Sgn x s) : (¬ x < 48 ∧ ¬ 57 < x) ↔ isD s := by
  have t48 : (48 : Int32).toInt = 48 := rfl
  have t57 : (57 : Int32).toInt = 57 := rfl
  have t0 : (0 : Int32).toInt = 0 := rfl
  have t127 : (127 : Int32).toInt = 127 := rfl
  rw [Int32.lt_iff_toInt_lt, Int32.lt_iff_toInt_lt]
  rcases h with ⟨h1, h2⟩ | ⟨h1, h2⟩
  · rw [h2, n_ti (by omega)]; omega
  · rw [Int32.lt_iff_toInt_lt, Int32.lt_iff_toInt_lt] at h2; omega
theorem c_isDig (hK : 0 < K) (hs : Sgn x s) (H : isD s → g 1 h) (H2 : ¬ isD s → g 0 h) : xm_Call K sX3_isDigit 99 [.int x] h (xm_pi g) := by
  refine eX3_isDigit (K := 0) hK ?_
  have hd := hs.dig
  by_cases h1 : x < 48
  · rw [if_pos h1]; exact xm_pi_i (H2 (fun q => (hd.mpr q).1 h1))
  rw [if_neg h1]
  by_cases h2 : 57 < x
  · rw [if_pos h2]; exact xm_pi_i (H2 (fun q => (hd.mpr q).2 h2))
  · rw [if_neg h2]; exact xm_pi_i (H (hd.mp ⟨h1, h2⟩))
def nmI (s : Nat) : Int32 := if nmN s < 6 then Int32.ofNat (nmN s) else -1
theorem nmI_neg : nmI s < 0 ↔ ¬ nmN s < 6 := by
  unfold nmI
  by_cases h : nmN s < 6
  · rw [if_pos h]; exact ⟨fun q => absurd q (xs_nn (by omega)), fun q => absurd h q⟩
  · rw [if_neg h]; exact ⟨fun _ => h, fun _ => by decide⟩
theorem c_nameOf3 (hK : 0 < K) (hs : Sgn x s) (H : g (nmI s) h) : xm_Call K sX3_nameOf 99 [.int x] h (xm_pi g) := by
  refine eX3_nameOf (K := 0) hK ?_
  have e : ∀ ch : Nat, ch < 128 → (x = Int32.ofNat ch ↔ s = ch) := fun ch hc => hs.eq hc
  by_cases h1 : s = 97
  · rw [if_pos (show x = (97 : Int32) from (e 97 (by omega)).mpr h1)]; subst h1; exact xm_pi_i H
  rw [if_neg (show ¬ x = (97 : Int32) from fun q => h1 ((e 97 (by omega)).mp q))]
  by_cases h2 : s = 103
  · rw [if_pos (show x = (103 : Int32) from (e 103 (by omega)).mpr h2)]; subst h2; exact xm_pi_i H
  rw [if_neg (show ¬ x = (103 : Int32) from fun q => h2 ((e 103 (by omega)).mp q))]
  by_cases h3 : s = 107
  · rw [if_pos (show x = (107 : Int32) from (e 107 (by omega)).mpr h3)]; subst h3; exact xm_pi_i H
  rw [if_neg (show ¬ x = (107 : Int32) from fun q => h3 ((e 107 (by omega)).mp q))]
  by_cases h4 : s = 111
  · rw [if_pos (show x = (111 : Int32) from (e 111 (by omega)).mpr h4)]; subst h4; exact xm_pi_i H
  rw [if_neg (show ¬ x = (111 : Int32) from fun q => h4 ((e 111 (by omega)).mp q))]
  by_cases h5 : s = 115
  · rw [if_pos (show x = (115 : Int32) from (e 115 (by omega)).mpr h5)]; subst h5; exact xm_pi_i H
  rw [if_neg (show ¬ x = (115 : Int32) from fun q => h5 ((e 115 (by omega)).mp q))]
  by_cases h6 : s = 119
  · rw [if_pos (show x = (119 : Int32) from (e 119 (by omega)).mpr h6)]; subst h6; exact xm_pi_i H
  rw [if_neg (show ¬ x = (119 : Int32) from fun q => h6 ((e 119 (by omega)).mp q))]
  have en : nmI s = -1 := by unfold nmI nmN; rw [if_neg]; rw [if_neg h3, if_neg h6, if_neg h1, if_neg h4, if_neg h5, if_neg h2]; omega
  rw [en] at H; exact xm_pi_i H
def rgI (s : Nat) : Int32 := if rgN s ≤ 4 then Int32.ofNat (rgN s) else -1
theorem rgI_eq (hr : r ≤ 4) : rgI s = Int32.ofNat r ↔ rgN s = r := by
  unfold rgI
  by_cases h : rgN s ≤ 4
  · rw [if_pos h]; exact n_eq (by omega) (by omega)
  · rw [if_neg h]; exact ⟨fun q => absurd q.symm (b50 r (by omega)).1, fun q => absurd q (by omega)⟩
theorem c_rungOf (hK : 0 < K) (hs : Sgn x s) (H : g (rgI s) h) : xm_Call K sX3_rungOf 99 [.int x] h (xm_pi g) := by
  refine eX3_rungOf (K := 0) hK ?_
  have e : ∀ ch : Nat, ch < 128 → (x = Int32.ofNat ch ↔ s = ch) := fun ch hc => hs.eq hc
  by_cases h1 : s = 37
  · rw [if_pos (show x = (37 : Int32) from (e 37 (by omega)).mpr h1)]; subst h1; exact xm_pi_i H
  rw [if_neg (show ¬ x = (37 : Int32) from fun q => h1 ((e 37 (by omega)).mp q))]
  by_cases h2 : s = 38
  · rw [if_pos (show x = (38 : Int32) from (e 38 (by omega)).mpr h2)]; subst h2; exact xm_pi_i H
  rw [if_neg (show ¬ x = (38 : Int32) from fun q => h2 ((e 38 (by omega)).mp q))]
  by_cases h3 : s = 42
  · rw [if_pos (show x = (42 : Int32) from (e 42 (by omega)).mpr h3)]; subst h3; exact xm_pi_i H
  rw [if_neg (show ¬ x = (42 : Int32) from fun q => h3 ((e 42 (by omega)).mp q))]
  by_cases h4 : s = 43
  · rw [if_pos (show x = (43 : Int32) from (e 43 (by omega)).mpr h4)]; subst h4; exact xm_pi_i H
  rw [if_neg (show ¬ x = (43 : Int32) from fun q => h4 ((e 43 (by omega)).mp q))]
  by_cases h5 : s = 45
  · rw [if_pos (show x = (45 : Int32) from (e 45 (by omega)).mpr h5)]; subst h5; exact xm_pi_i H
  rw [if_neg (show ¬ x = (45 : Int32) from fun q => h5 ((e 45 (by omega)).mp q))]
  by_cases h6 : s = 47
  · rw [if_pos (show x = (47 : Int32) from (e 47 (by omega)).mpr h6)]; subst h6; exact xm_pi_i H
  rw [if_neg (show ¬ x = (47 : Int32) from fun q => h6 ((e 47 (by omega)).mp q))]
  by_cases h7 : s = 60
  · rw [if_pos (show x = (60 : Int32) from (e 60 (by omega)).mpr h7)]; subst h7; exact xm_pi_i H
  rw [if_neg (show ¬ x = (60 : Int32) from fun q => h7 ((e 60 (by omega)).mp q))]
  by_cases h8 : s = 61
  · rw [if_pos (show x = (61 : Int32) from (e 61 (by omega)).mpr h8)]; subst h8; exact xm_pi_i H
  rw [if_neg (show ¬ x = (61 : Int32) from fun q => h8 ((e 61 (by omega)).mp q))]
  by_cases h9 : s = 62
  · rw [if_pos (show x = (62 : Int32) from (e 62 (by omega)).mpr h9)]; subst h9; exact xm_pi_i H
  rw [if_neg (show ¬ x = (62 : Int32) from fun q => h9 ((e 62 (by omega)).mp q))]
  by_cases h10 : s = 124
  · rw [if_pos (show x = (124 : Int32) from (e 124 (by omega)).mpr h10)]; subst h10; exact xm_pi_i H
  rw [if_neg (show ¬ x = (124 : Int32) from fun q => h10 ((e 124 (by omega)).mp q))]
  have en : rgI s = -1 := by
    unfold rgI rgN
    rw [if_neg h10, if_neg h2, if_neg (show ¬ (s = 60 ∨ s = 61 ∨ s = 62) by omega), if_neg (show ¬ (s = 43 ∨ s = 45) by omega), if_neg (show ¬ (s = 42 ∨ s = 47 ∨ s = 37) by omega), if_neg (by omega)]
  rw [en] at H; exact xm_pi_i H
/-! the reader -/
def TpC (A : Nat → Nat → Int32) (sg : Nat → Nat) (t : Nat) : Prop := t ≤ 120 ∧ Tp sg t ∧ ∀ k, k < t → A 14 k = Int32.ofNat (sg k)
def RdF (A F : Nat → Nat → Int32) (t p : Nat) (A' F' : Nat → Nat → Int32) : Prop := Ag [15] A A' ∧ Ag [13] F F' ∧ F' 13 1 = Int32.ofNat t ∧ F' 13 2 = Int32.ofNat p ∧ ∃ n, n ≤ 128 ∧ F' 13 4 = Int32.ofNat n
def RdC (A F : Nat → Nat → Int32) (t p : Nat) (cs : List Int32) (A' F' : Nat → Nat → Int32) : Prop := Ag [15] A A' ∧ Ag [13] F F' ∧ F' 13 1 = Int32.ofNat t ∧ F' 13 2 = Int32.ofNat p ∧ F' 13 4 = Int32.ofNat cs.length ∧ ∀ k, k < cs.length → A' 15 k = cs.getD k 0
theorem RdC.toF (h : RdC A F t p cs A' F') (hl : cs.length ≤ 128) : RdF A F t p A' F' := ⟨h.1, h.2.1, h.2.2.1, h.2.2.2.1, _, hl, h.2.2.2.2.1⟩
theorem RdC.go (h : RdC A F t p cs A' F') : RdC A F t (p + 1) cs A' (va_up F' 13 (va_up (F' 13) 2 (Int32.ofNat (p + 1)))) :=
  ⟨h.1, Ag.up h.2.1 (by simp), by rw [u_eq, u_ne (by omega)]; exact h.2.2.1, by rw [u_eq, u_eq], by rw [u_eq, u_ne (by omega)]; exact h.2.2.2.2.1, h.2.2.2.2.2⟩
theorem c_next3 (hK : 0 < K) (hT : TpC A sg t) (h14 : A' 14 = A 14) (h1 : F' 13 1 = Int32.ofNat t) (h2 : F' 13 2 = Int32.ofNat p) (hp : p ≤ t) (H : ∀ x, Sgn x (sg p) → (sg p < 256 → x = Int32.ofNat (sg p)) → g x (HP A' L F')) : xm_Call K sX3_next 3 [.ref 13] (HP A' L F') (xm_pi g) := by
  obtain ⟨t1, t2, t3⟩ := hT
  refine eX3_next (K := 0) hK ⟨_, rfl⟩ ⟨_, rfl, ?_⟩
  rw [h2, if_neg (xs_nn (by omega))]
  refine ⟨_, rfl, _, rfl, ?_⟩
  rw [h1, h2]
  by_cases hlt : p < t
  · rw [if_pos ((n_lt (by omega) (by omega)).mpr hlt)]
    refine ⟨_, rfl, ?_⟩
    rw [h2, if_pos (show Int32.ofNat p < (120 : Int32) from (n_lt (q := 120) (by omega) (by omega)).mpr (by omega))]
    refine ⟨_, rfl, _, rfl, ?_⟩
    rw [h2]
    refine ⟨_, ln_14 (by omega), xm_pi_i ?_⟩
    rw [h14, t3 p hlt]
    have hl := (t2 p).1 hlt
    refine H _ ?_ (fun _ => rfl)
    by_cases h128 : sg p < 128
    · exact Or.inl ⟨h128, rfl⟩
    · exact Or.inr ⟨by omega, Or.inr ((n_lt (p := 127) (by omega) (by omega)).mpr (by omega))⟩
  · rw [if_neg (n_ge (by omega) (by omega) (by omega))]
    have e := (t2 p).2 (by omega)
    refine xm_pi_i (H _ (Or.inr ⟨by omega, Or.inl (by decide)⟩) (fun q => by omega))
theorem c_emitF (hK : 0 < K) (h : RdF A F t p A' F') (H : ∀ A2 F2, RdF A F t p A2 F2 → gv (HP A2 L F2)) : xm_Call K sX3_emit 3 [.ref 13, .int x] (HP A' L F') (xm_pv gv) := by
  have h0 := h
  obtain ⟨a1, a2, a3, a4, n, hn, a5⟩ := h0
  refine eX3_emit (K := 0) hK ⟨_, rfl⟩ ⟨_, rfl, ?_⟩
  rw [a5]
  by_cases hl : n < 128
  · rw [if_pos (show Int32.ofNat n < (128 : Int32) from (n_lt (q := 128) (by omega) (by omega)).mpr hl)]
    refine ⟨_, rfl, _, rfl, ?_⟩
    rw [a5]
    refine ⟨_, sn_15 hl, _, rfl, _, p_13_4, xm_pv_i (H _ _ ⟨Ag.up a1 (by simp), Ag.up a2 (by simp), by rw [u_eq, u_ne (by omega)]; exact a3, by rw [u_eq, u_ne (by omega)]; exact a4, n + 1, by omega, ?_⟩)⟩
    rw [u_eq, u_eq, a5, n_succ]
  · rw [if_neg (show ¬ Int32.ofNat n < (128 : Int32) from n_ge (q := 128) (by omega) (by omega) (by omega))]
    exact xm_pv_i (H _ _ h)
theorem gd_app (hk : k < cs.length) : (cs ++ [x]).getD k 0 = cs.getD k 0 := by
  rw [List.getD_eq_getElem?_getD, List.getD_eq_getElem?_getD, List.getElem?_append_left hk]
theorem gd_last : (cs ++ [x]).getD cs.length 0 = x := by
  rw [List.getD_eq_getElem?_getD, List.getElem?_append_right (Nat.le_refl _)]; simp
theorem c_emitC (hK : 0 < K) (h : RdC A F t p cs A' F') (hl : cs.length < 128) (H : ∀ A2 F2, RdC A F t p (cs ++ [x]) A2 F2 → gv (HP A2 L F2)) : xm_Call K sX3_emit 3 [.ref 13, .int x] (HP A' L F') (xm_pv gv) := by
  obtain ⟨a1, a2, a3, a4, a5, a6⟩ := h
  have len : (cs ++ [x]).length = cs.length + 1 := by rw [List.length_append]; rfl
  refine eX3_emit (K := 0) hK ⟨_, rfl⟩ ⟨_, rfl, ?_⟩
  rw [a5, if_pos (show Int32.ofNat cs.length < (128 : Int32) from (n_lt (q := 128) (by omega) (by omega)).mpr hl)]
  refine ⟨_, rfl, _, rfl, ?_⟩
  rw [a5]
  refine ⟨_, sn_15 hl, _, rfl, _, p_13_4, xm_pv_i (H _ _ ⟨Ag.up a1 (by simp), Ag.up a2 (by simp), by rw [u_eq, u_ne (by omega)]; exact a3, by rw [u_eq, u_ne (by omega)]; exact a4, ?_, fun k hk => ?_⟩)⟩
  · rw [u_eq, u_eq, a5, n_succ, len]
  · rw [len] at hk
    show upd (A' 15) cs.length x k = _
    by_cases e : k = cs.length
    · subst e; rw [p_eq, gd_last]
    · rw [p_ne e, gd_app (by omega)]; exact a6 k (by omega)
theorem c_accept (hK : 1 < K) (hT : TpC A sg t) (hch : ch < 128) (h14 : A' 14 = A 14) (h1 : F' 13 1 = Int32.ofNat t) (h2 : F' 13 2 = Int32.ofNat p) (hp : p ≤ t) (H : sg p = ch → g 1 (HP A' L (va_up F' 13 (va_up (F' 13) 2 (Int32.ofNat (p + 1)))))) (H2 : sg p ≠ ch → g 0 (HP A' L F')) : xm_Call K sX3_accept 3 [.ref 13, .int (Int32.ofNat ch)] (HP A' L F') (xm_pi g) := by
  refine eX3_accept (K := 1) hK ⟨_, rfl⟩ (c_next3 (sg := sg) (by omega) hT h14 h1 h2 hp (fun x hs _ => ?_))
  by_cases e : sg p = ch
  · rw [if_pos ((hs.eq hch).mpr e)]
    refine ⟨_, rfl, _, p_13_2, xm_pi_i ?_⟩
    rw [h2, n_succ]; exact H e
  · rw [if_neg (fun q => e ((hs.eq hch).mp q))]; exact xm_pi_i (H2 e)
theorem RdF.get (h : RdF A F t p A' F') : A' 14 = A 14 ∧ F' 13 1 = Int32.ofNat t ∧ F' 13 2 = Int32.ofNat p := ⟨h.1 14 (by simp), h.2.2.1, h.2.2.2.1⟩
theorem RdC.get (h : RdC A F t p cs A' F') : A' 14 = A 14 ∧ F' 13 1 = Int32.ofNat t ∧ F' 13 2 = Int32.ofNat p := ⟨h.1 14 (by simp), h.2.2.1, h.2.2.2.1⟩
theorem n_dig {v s : Nat} (hs : 48 ≤ s) : Int32.ofNat v * 10 + Int32.ofNat s - 48 = Int32.ofNat (10 * v + (s - 48)) := by
  have e1 : Int32.ofNat v * 10 = Int32.ofNat (v * 10) := n_mul v 10
  rw [e1, n_add, show v * 10 + s = (10 * v + (s - 48)) + 48 by omega, ← n_add]
  exact Int32.add_sub_cancel _ _
theorem c_num (hT : TpC A sg t) (hK : 1 < K) : ∀ (m p v : Nat) (A' F' : Nat → Nat → Int32), m ≤ 4 → p ≤ t → cs.length < 128 → RdC A F t p cs A' F' → (∀ A2 F2, RdC A F t (pDig sg m p v).1 (cs ++ [Int32.ofNat (1000 + (pDig sg m p v).2)]) A2 F2 → gv (HP A2 L F2)) → xm_L K sX3_readNumber kX3_readNumber 4 [some (.ref 13), some (.int (Int32.ofNat v)), some (.int (Int32.ofNat (4 - m)))] [] (HP A' L F') (xm_pv gv)
  | 0, p, v, A', F', _, hp, hl, hr, H => by
    refine xX3_readNumber_4 ?_
    rw [if_neg (by decide), show (1000 : Int32) + Int32.ofNat v = Int32.ofNat (1000 + v) from n_add 1000 v]
    exact c_emitC (by omega) hr hl (fun A2 F2 h2 => xm_pv_i (H A2 F2 h2))
  | m + 1, p, v, A', F', hm, hp, hl, hr, H => by
    obtain ⟨g1, g2, g3⟩ := hr.get
    refine xX3_readNumber_4 ?_
    rw [if_pos (show Int32.ofNat (4 - (m + 1)) < (4 : Int32) from (n_lt (q := 4) (by omega) (by omega)).mpr (by omega))]
    refine c_next3 (sg := sg) (by omega) hT g1 g2 g3 hp (fun x hs _ => c_isDig (by omega) hs (fun hd => ?_) (fun hd => ?_))
    · rw [if_neg (by decide)]
      have e : pDig sg (m + 1) p v = pDig sg m (p + 1) (10 * v + (sg p - 48)) := by show (if isD (sg p) then _ else _) = _; rw [if_pos hd]
      rw [e] at H
      refine c_next3 (sg := sg) (by omega) hT g1 g2 g3 hp (fun x2 _ hx2 => ⟨_, rfl, _, p_13_2, ?_⟩)
      rw [hx2 (by omega), n_dig hd.1, g3, n_succ, n_succ, show 4 - (m + 1) + 1 = 4 - m by omega]
      exact c_num hT hK m (p + 1) _ _ _ (by omega) (hT.2.1.lt (by omega)) hl hr.go H
    · rw [if_pos rfl, show (1000 : Int32) + Int32.ofNat v = Int32.ofNat (1000 + v) from n_add 1000 v]
      have e : pDig sg (m + 1) p v = (p, v) := by show (if isD (sg p) then _ else _) = _; rw [if_neg hd]
      rw [e] at H
      exact c_emitC (by omega) hr hl (fun A2 F2 h2 => xm_pv_i (H A2 F2 h2))
end RDC
