section BOD
variable {A : Nat → Nat → Int32} {L : Nat → Nat → Int64} {F : Nat → Nat → Int32} {gv : xm_H → Prop} {w n p k j y e m r o a d u K nb km i t b fr : Nat} {x x1 x2 x3 x4 x5 v z B : Int32} {h : xm_H} {tc : (Nat → Int32) → Int32} {c : Nat → Int32} {q : Int64} {s : Nat × (Nat → Int32)} {l l1 l2 : List Int32}
/-! the trace -/
def wr (s : Nat × (Nat → Int32)) (v : Int32) : Nat × (Nat → Int32) := (s.1 + 1, if s.1 < 24 then upd s.2 s.1 v else s.2)
def rn (l : List Int32) (s : Nat × (Nat → Int32)) : Nat × (Nat → Int32) := l.foldl wr s
theorem rn_app : rn (l1 ++ l2) s = rn l2 (rn l1 s) := List.foldl_append
theorem rn_1 : ∀ (l : List Int32) (s : Nat × (Nat → Int32)), (rn l s).1 = s.1 + l.length
  | [], s => rfl
  | v :: l, s => by
    show (rn l (wr s v)).1 = s.1 + (l.length + 1)
    rw [rn_1 l (wr s v)]
    show s.1 + 1 + l.length = _
    omega
def TS (A : Nat → Nat → Int32) (L : Nat → Nat → Int64) (F : Nat → Nat → Int32) (s : Nat × (Nat → Int32)) : xm_H := HP (va_up A 30 s.2) L (va_up F 28 (va_up (F 28) 3 (Int32.ofNat s.1)))
def TR (A : Nat → Nat → Int32) (L : Nat → Nat → Int64) (F : Nat → Nat → Int32) (s : Nat × (Nat → Int32)) : xm_H := HP (va_up A 76 s.2) L (va_up F 44 (va_up (F 44) 52 (Int32.ofNat s.1)))
theorem up3 {α : Type} {A : Nat → α} {c : Nat} {f f' : α} : va_up (va_up A c f) c f' = va_up A c f' := by
  funext k
  by_cases h : k = c
  · subst h; rw [u_eq, u_eq]
  · rw [u_ne h, u_ne h, u_ne h]
theorem c_begin (hK : 0 < K) (hs : s.1 < 1000) (H : gv (TS A L F (wr s v))) : xm_Call K sX1_begin 1 [.ref 28, .int v] (TS A L F s) (xm_pv gv) := by
  refine eX1_begin (K := 0) hK ⟨_, rfl⟩ ⟨_, rfl, ?_⟩
  rw [u_eq, u_eq]
  have e3 : va_up (va_up F 28 (va_up (F 28) 3 (Int32.ofNat s.1))) 28 (va_up (va_up F 28 (va_up (F 28) 3 (Int32.ofNat s.1)) 28) 3 (Int32.ofNat s.1 + 1)) = va_up F 28 (va_up (F 28) 3 (Int32.ofNat (s.1 + 1))) := by
    rw [u_eq, up3, up3, n_succ]
  by_cases h24 : s.1 < 24
  · rw [if_pos (show Int32.ofNat s.1 < (24 : Int32) from (n_lt (q := 24) (by omega) (by omega)).mpr h24)]
    refine ⟨_, rfl, _, rfl, ?_⟩
    rw [u_eq, u_eq]
    refine ⟨_, sn_30 h24, _, rfl, _, p_28_3, xm_pv_i ?_⟩
    have e2 : wr s v = (s.1 + 1, upd s.2 s.1 v) := by unfold wr; rw [if_pos h24]
    rw [e2] at H
    rw [show (va_up F 28 (va_up (F 28) 3 (Int32.ofNat s.1)) 28 3) = Int32.ofNat s.1 by rw [u_eq, u_eq], e3, u_eq, up3]
    exact H
  · rw [if_neg (show ¬ Int32.ofNat s.1 < (24 : Int32) from n_ge (q := 24) (by omega) (by omega) (by omega))]
    refine ⟨_, rfl, _, p_28_3, xm_pv_i ?_⟩
    have e2 : wr s v = (s.1 + 1, s.2) := by unfold wr; rw [if_neg h24]
    rw [e2] at H
    rw [show (va_up F 28 (va_up (F 28) 3 (Int32.ofNat s.1)) 28 3) = Int32.ofNat s.1 by rw [u_eq, u_eq], e3]
    exact H
theorem m_ran (hK : 0 < K) (hs : s.1 < 1000) (H : gv (TR A L F (wr s v))) : xm_Call K sX9_ran 9 [.ref 44, .int v] (TR A L F s) (xm_pv gv) := by
  refine eX9_ran (K := 0) hK ⟨_, rfl⟩ ⟨_, rfl, ?_⟩
  rw [u_eq, u_eq]
  have e3 : va_up (va_up F 44 (va_up (F 44) 52 (Int32.ofNat s.1))) 44 (va_up (va_up F 44 (va_up (F 44) 52 (Int32.ofNat s.1)) 44) 52 (Int32.ofNat s.1 + 1)) = va_up F 44 (va_up (F 44) 52 (Int32.ofNat (s.1 + 1))) := by
    rw [u_eq, up3, up3, n_succ]
  by_cases h24 : s.1 < 24
  · rw [if_pos (show Int32.ofNat s.1 < (24 : Int32) from (n_lt (q := 24) (by omega) (by omega)).mpr h24)]
    refine ⟨_, rfl, _, rfl, ?_⟩
    rw [u_eq, u_eq]
    refine ⟨_, sn_76 h24, _, rfl, _, p_44_52, xm_pv_i ?_⟩
    have e2 : wr s v = (s.1 + 1, upd s.2 s.1 v) := by unfold wr; rw [if_pos h24]
    rw [e2] at H
    rw [show (va_up F 44 (va_up (F 44) 52 (Int32.ofNat s.1)) 44 52) = Int32.ofNat s.1 by rw [u_eq, u_eq], e3, u_eq, up3]
    exact H
  · rw [if_neg (show ¬ Int32.ofNat s.1 < (24 : Int32) from n_ge (q := 24) (by omega) (by omega) (by omega))]
    refine ⟨_, rfl, _, p_44_52, xm_pv_i ?_⟩
    have e2 : wr s v = (s.1 + 1, s.2) := by unfold wr; rw [if_neg h24]
    rw [e2] at H
    rw [show (va_up F 44 (va_up (F 44) 52 (Int32.ofNat s.1)) 44 52) = Int32.ofNat s.1 by rw [u_eq, u_eq], e3]
    exact H
/-! whose act it is -/
def numN (at' a : Nat) : Nat := match at', a with
  | 0, 0 => 1
  | 0, 1 => 10
  | 0, 2 => 11
  | 0, 3 => 2
  | 1, 0 => 20
  | 2, 1 => 30
  | 3, 1 => 41
  | 3, 2 => 40
  | 4, 3 => 50
  | 5, 2 => 60
  | 5, 3 => 61
  | 6, 0 => 70
  | 7, 0 => 81
  | 7, 1 => 80
  | _, _ => 0
def abN (d : Nat) : Nat := match d with
  | 3 => 2
  | 4 => 1
  | 5 => 3
  | 7 => 6
  | _ => 0
def ownF : Nat → Nat → Nat → Nat
  | 0, r, _ => r
  | f + 1, r, a => if numN r a = 0 then ownF f (abN r) a else r
theorem ow_all : ∀ r, r < 8 → ∀ a, a < 4 → numN (ownF 4 r a) a ≠ 0 ∧ ownF 4 r a < 8 ∧ numN 0 a ≠ 0 := by decide +kernel
theorem ab_all : ∀ r, r < 8 → abN r < 8 ∧ (r ≠ 0 → abI r = Int32.ofNat (abN r)) := by decide +kernel
theorem four (ha : a < 4) : a = 0 ∨ a = 1 ∨ a = 2 ∨ a = 3 := by omega
theorem st_own (hr : r < 8) (ha : a < 4) : xm_ld xm_st (HP A L F) 0 (1000 + 4) (Int32.ofNat (r * 4 + a)) = some (Int32.ofNat (numN r a)) := by
  rcases eight hr with rfl | rfl | rfl | rfl | rfl | rfl | rfl | rfl <;> rcases four ha with rfl | rfl | rfl | rfl <;> rfl
theorem n_m4 (r a : Nat) : Int32.ofNat r * 4 + Int32.ofNat a = Int32.ofNat (r * 4 + a) := by rw [show Int32.ofNat r * 4 = Int32.ofNat (r * 4) from n_mul r 4, n_add]
theorem num_lt : ∀ r, r < 8 → ∀ a, a < 4 → numN r a < 100 := by decide +kernel
theorem c_own {g : Int32 → xm_H → Prop} (hK : 0 < K) (ha : a < 4) : ∀ f t r, r < 8 → t + f < 8 → numN (ownF f r a) a ≠ 0 → g (Int32.ofNat (ownF f r a)) (HP A L F) → xm_L K sX1_ownerOf kX1_ownerOf 4 [none, none, some (.int (Int32.ofNat a)), some (.int (Int32.ofNat r)), some (.int (Int32.ofNat t))] [] (HP A L F) (xm_pi g) := by
  have hit : ∀ t r, r < 8 → t < 8 → numN r a ≠ 0 → g (Int32.ofNat r) (HP A L F) → xm_L K sX1_ownerOf kX1_ownerOf 4 [none, none, some (.int (Int32.ofNat a)), some (.int (Int32.ofNat r)), some (.int (Int32.ofNat t))] [] (HP A L F) (xm_pi g) := by
    intro t r hr ht h0 H
    refine xX1_ownerOf_4 ?_
    rw [if_pos (show Int32.ofNat t < (8 : Int32) from (n_lt (q := 8) (by omega) (by omega)).mpr ht)]
    refine c_isKind hK (fun _ _ _ => ?_) (fun hb => (no8 hr rfl hb).elim)
    rw [if_neg (by decide), n_m4]
    have hl := num_lt r hr a ha
    refine ⟨_, st_own hr ha, ?_⟩
    rw [if_neg (show ¬ Int32.ofNat (numN r a) = 0 from fun q => h0 ((n_eq (q := 0) (by omega) (by omega)).mp q))]
    exact xm_pi_i H
  intro f
  induction f with
  | zero => intro t r hr ht h0 H; exact hit t r hr (by omega) h0 H
  | succ f ih =>
    intro t r hr ht h0 H
    by_cases hn : numN r a = 0
    · have e : ownF (f + 1) r a = ownF f (abN r) a := by show (if numN r a = 0 then _ else _) = _; rw [if_pos hn]
      rw [e] at h0 H
      have hr0 : r ≠ 0 := fun q => by subst q; exact (ow_all 0 (by omega) a ha).2.2 hn
      have hab := ab_all r hr
      refine xX1_ownerOf_4 ?_
      rw [if_pos (show Int32.ofNat t < (8 : Int32) from (n_lt (q := 8) (by omega) (by omega)).mpr (by omega))]
      refine c_isKind hK (fun _ _ _ => ?_) (fun hb => (no8 hr rfl hb).elim)
      rw [if_neg (by decide), n_m4]
      refine ⟨_, st_own hr ha, ?_⟩
      rw [hn, if_pos (by decide), n_succ]
      refine ⟨_, st_ab hr, ?_⟩
      rw [hab.2 hr0]
      exact ih (t + 1) (abN r) hab.1 (by omega) h0 H
    · have e : ownF (f + 1) r a = r := by show (if numN r a = 0 then _ else _) = _; rw [if_neg hn]
      rw [e] at h0 H
      exact hit t r hr (by omega) h0 H
/-! what an act gives, and what it leaves in the trace -/
def pfB (rec : Nat → Nat → Int32 → Option (Int32 × List Int32)) (d : Nat) (B : Int32) (N u : Nat) (x : Int32) : Option (Int32 × List Int32) :=
  if N = 1 then some (x + B, [1]) else
  if N = 2 then (rec d 1 x).bind fun r => (rec d 2 1).bind fun q => some (r.1 - q.1, 2 :: (r.2 ++ q.2)) else
  if N = 10 then (rec d 0 x).bind fun r => some (r.1 * 2, 10 :: r.2) else
  if N = 11 then some (x ^^^ B, [11]) else
  if N = 20 then (rec u 0 x).bind fun r => some (r.1 + 3, 20 :: r.2) else
  if N = 30 then (rec u 1 x).bind fun r => some (-r.1, 30 :: r.2) else
  if N = 40 then (rec u 2 x).bind fun r => some (r.1 * 3, 40 :: r.2) else
  if N = 41 then (rec u 1 (x + 1)).bind fun r => some (r.1, 41 :: r.2) else
  if N = 50 then (rec u 3 x).bind fun r => some (r.1 ^^^ 5, 50 :: r.2) else
  if N = 60 then (rec u 2 x).bind fun r => (rec d 0 2).bind fun q => some (r.1 - q.1, 60 :: (r.2 ++ q.2)) else
  if N = 61 then (rec u 3 x).bind fun r => some (r.1 + 1, 61 :: r.2) else
  if N = 70 then (rec u 0 x).bind fun r => some (r.1 * 2, 70 :: r.2) else
  if N = 80 then (rec u 1 x).bind fun r => (rec d 2 2).bind fun q => some (r.1 + q.1, 80 :: (r.2 ++ q.2)) else
  if N = 81 then (rec u 0 x).bind fun r => some (r.1 - 1, 81 :: r.2) else none
def pf (d : Nat) (B : Int32) : Nat → Nat → Nat → Int32 → Option (Int32 × List Int32)
  | 0, _, _, _ => none
  | f + 1, fr, a, x => pfB (pf d B f) d B (numN (ownF 4 fr a) a) (abN (ownF 4 fr a)) x
theorem own14 : ∀ r, r < 8 → ∀ a, a < 4 → (ownF 4 r a, a) ∈ [(0, 0), (0, 1), (0, 2), (0, 3), (1, 0), (2, 1), (3, 1), (3, 2), (4, 3), (5, 2), (5, 3), (6, 0), (7, 0), (7, 1)] := by decide +kernel
/-- what holds of the BODY whose act runs -/
def Slf (A F : Nat → Nat → Int32) (nb b d : Nat) : Prop := b < nb ∧ nb ≤ 50 ∧ d < 8 ∧ F 28 1 = Int32.ofNat nb ∧ F 28 4 = Int32.ofNat b ∧ A 29 b = Int32.ofNat d
theorem c_again {g : Int32 → xm_H → Prop} (hK : K < k) (h0 : 0 < K) (hS : Slf A F nb b d) (H : xm_Call K sX1_perform 1 [.ref 28, .int (Int32.ofNat d), .int x1, .int x2, .int x3] (TS A L F s) (xm_pi fun c h => xm_pi g (some (.int c)) h)) : xm_Call k sX1_again 1 [.ref 28, .int x1, .int x2, .int x3] (TS A L F s) (xm_pi g) := by
  obtain ⟨s1, s2, s3, s4, s5, s6⟩ := hS
  refine eX1_again (K := K) hK ⟨_, rfl⟩ ⟨_, rfl, ?_⟩
  have e4 : va_up F 28 (va_up (F 28) 3 (Int32.ofNat s.1)) 28 4 = Int32.ofNat b := by rw [u_eq, u_ne (by omega)]; exact s5
  rw [e4]
  refine c_bhas (nb := nb) h0 (by rw [u_eq, u_ne (by omega)]; exact s4) s2 (fun p hp he => ?_) (fun q => ?_)
  · rw [if_neg (by decide)]
    refine ⟨_, rfl, _, rfl, ?_⟩
    rw [e4]
    refine ⟨_, ln_29 (by omega), ?_⟩
    rw [show va_up A 30 s.2 29 b = Int32.ofNat d from s6]
    exact H
  · exact (q.elim (xs_nn (by omega)) (fun z => z ((n_lt (by omega) (by omega)).mpr s1))).elim
theorem c_perform (hS : Slf A F nb b d) : ∀ (f K fr a : Nat) (x : Int32) (dp : Nat) (s : Nat × (Nat → Int32)) (r : Int32 × List Int32) (g : Int32 → xm_H → Prop), pf d (Int32.ofNat b) f fr a x = some r → fr < 8 → a < 4 → dp + f ≤ 41 → 2 * f + 2 ≤ K → s.1 + r.2.length < 1000 → g r.1 (TS A L F (rn r.2 s)) → xm_Call K sX1_perform 1 [.ref 28, .int (Int32.ofNat fr), .int (Int32.ofNat a), .int x, .int (Int32.ofNat dp)] (TS A L F s) (xm_pi g) := by
  intro f
  induction f with
  | zero => intro K fr a x dp s r g hr; exact absurd hr (by intro q; cases q)
  | succ f ih =>
    intro K fr a x dp s r g hr hfr ha hdp hK hs H
    have hd : d < 8 := hS.2.2.1
    have oa := ow_all fr hfr a ha
    refine eX1_perform (K := 2 * f + 3) (by omega) ⟨_, rfl⟩ ?_
    rw [if_neg (xs_nn (by omega)), if_pos (show Int32.ofNat a < (4 : Int32) from (n_lt (q := 4) (by omega) (by omega)).mpr ha)]
    refine eX1_ownerOf (K := 1) (by omega) ⟨_, rfl⟩ (c_own (a := a) (by omega) ha 4 0 fr hfr (by omega) oa.1 ?_)
    rw [if_neg (xs_nn (by omega)), if_neg (show ¬ (40 : Int32) < Int32.ofNat dp from n_ge (p := 40) (by omega) (by omega) (by omega)), n_m4]
    refine ⟨_, st_own oa.2.1 ha, _, st_ab oa.2.1, c_begin (by omega) (by omega) ?_⟩
    have hr' : pfB (pf d (Int32.ofNat b) f) d (Int32.ofNat b) (numN (ownF 4 fr a) a) (abN (ownF 4 fr a)) x = some r := hr
    clear hr oa
    have hc := own14 fr hfr a ha
    simp only [List.mem_cons, Prod.mk.injEq, List.not_mem_nil, or_false] at hc
    generalize ownF 4 fr a = o at hc hr' ⊢
    rcases hc with ⟨rfl, rfl⟩ | ⟨rfl, rfl⟩ | ⟨rfl, rfl⟩ | ⟨rfl, rfl⟩ | ⟨rfl, rfl⟩ | ⟨rfl, rfl⟩ | ⟨rfl, rfl⟩ | ⟨rfl, rfl⟩ | ⟨rfl, rfl⟩ | ⟨rfl, rfl⟩ | ⟨rfl, rfl⟩ | ⟨rfl, rfl⟩ | ⟨rfl, rfl⟩ | ⟨rfl, rfl⟩ <;> (repeat (first | rw [if_pos (by decide)] | rw [if_neg (by decide)])) <;> (try rw [n_succ])
    · have e : (x + Int32.ofNat b, ([1] : List Int32)) = r := Option.some.inj hr'
      subst e
      refine ⟨_, rfl, xm_pi_i ?_⟩
      rw [show va_up F 28 (va_up (F 28) 3 (Int32.ofNat (wr s (Int32.ofNat (numN 0 0))).1)) 28 4 = Int32.ofNat b from hS.2.2.2.2.1]
      exact H
    · obtain ⟨r1, e1, e2⟩ := Option.bind_eq_some_iff.mp (show (pf d (Int32.ofNat b) f d 0 x).bind (fun r => some (r.1 * 2, (10 : Int32) :: r.2)) = some r from hr')
      have e3 := Option.some.inj e2
      subst e3
      have hl : s.1 + (r1.2.length + 1) < 1000 := hs
      exact c_again (K := 2 * f + 2) (by omega) (by omega) hS (ih _ d 0 x (dp + 1) _ r1 _ e1 hd (by omega) (by omega) (by omega) (by show s.1 + 1 + _ < _; omega) (xm_pi_i (xm_pi_i H)))
    · have e : (x ^^^ Int32.ofNat b, ([11] : List Int32)) = r := Option.some.inj hr'
      subst e
      refine ⟨_, rfl, xm_pi_i ?_⟩
      rw [show va_up F 28 (va_up (F 28) 3 (Int32.ofNat (wr s (Int32.ofNat (numN 0 2))).1)) 28 4 = Int32.ofNat b from hS.2.2.2.2.1]
      exact H
    · obtain ⟨r1, e1, e2⟩ := Option.bind_eq_some_iff.mp (show (pf d (Int32.ofNat b) f d 1 x).bind (fun r => (pf d (Int32.ofNat b) f d 2 1).bind fun q => some (r.1 - q.1, (2 : Int32) :: (r.2 ++ q.2))) = some r from hr')
      obtain ⟨r2, e3, e4⟩ := Option.bind_eq_some_iff.mp e2
      have e5 := Option.some.inj e4
      subst e5
      have hl : s.1 + ((r1.2 ++ r2.2).length + 1) < 1000 := hs
      rw [List.length_append] at hl
      have H' : g (r1.1 - r2.1) (TS A L F (rn (r1.2 ++ r2.2) (wr s 2))) := H
      rw [rn_app] at H'
      exact c_again (K := 2 * f + 2) (by omega) (by omega) hS (ih _ d 1 x (dp + 1) _ r1 _ e1 hd (by omega) (by omega) (by omega) (by show s.1 + 1 + _ < _; omega) (xm_pi_i (c_again (K := 2 * f + 2) (by omega) (by omega) hS (ih _ d 2 1 (dp + 1) _ r2 _ e3 hd (by omega) (by omega) (by omega) (by rw [rn_1]; show s.1 + 1 + _ + _ < _; omega) (xm_pi_i (xm_pi_i H'))))))
    · obtain ⟨r1, e1, e2⟩ := Option.bind_eq_some_iff.mp (show (pf d (Int32.ofNat b) f 0 0 x).bind (fun r => some (r.1 + 3, (20 : Int32) :: r.2)) = some r from hr')
      have e3 := Option.some.inj e2
      subst e3
      have hl : s.1 + (r1.2.length + 1) < 1000 := hs
      exact ih _ 0 0 x (dp + 1) _ r1 _ e1 (by omega) (by omega) (by omega) (by omega) (by show s.1 + 1 + _ < _; omega) (xm_pi_i H)
    · obtain ⟨r1, e1, e2⟩ := Option.bind_eq_some_iff.mp (show (pf d (Int32.ofNat b) f 0 1 x).bind (fun r => some (-r.1, (30 : Int32) :: r.2)) = some r from hr')
      have e3 := Option.some.inj e2
      subst e3
      have hl : s.1 + (r1.2.length + 1) < 1000 := hs
      exact ih _ 0 1 x (dp + 1) _ r1 _ e1 (by omega) (by omega) (by omega) (by omega) (by show s.1 + 1 + _ < _; omega) (xm_pi_i H)
    · obtain ⟨r1, e1, e2⟩ := Option.bind_eq_some_iff.mp (show (pf d (Int32.ofNat b) f 2 1 (x + 1)).bind (fun r => some (r.1, (41 : Int32) :: r.2)) = some r from hr')
      have e3 := Option.some.inj e2
      subst e3
      have hl : s.1 + (r1.2.length + 1) < 1000 := hs
      exact ih _ 2 1 (x + 1) (dp + 1) _ r1 _ e1 (by omega) (by omega) (by omega) (by omega) (by show s.1 + 1 + _ < _; omega) (xm_pi_i H)
    · obtain ⟨r1, e1, e2⟩ := Option.bind_eq_some_iff.mp (show (pf d (Int32.ofNat b) f 2 2 x).bind (fun r => some (r.1 * 3, (40 : Int32) :: r.2)) = some r from hr')
      have e3 := Option.some.inj e2
      subst e3
      have hl : s.1 + (r1.2.length + 1) < 1000 := hs
      exact ih _ 2 2 x (dp + 1) _ r1 _ e1 (by omega) (by omega) (by omega) (by omega) (by show s.1 + 1 + _ < _; omega) (xm_pi_i H)
    · obtain ⟨r1, e1, e2⟩ := Option.bind_eq_some_iff.mp (show (pf d (Int32.ofNat b) f 1 3 x).bind (fun r => some (r.1 ^^^ 5, (50 : Int32) :: r.2)) = some r from hr')
      have e3 := Option.some.inj e2
      subst e3
      have hl : s.1 + (r1.2.length + 1) < 1000 := hs
      exact ih _ 1 3 x (dp + 1) _ r1 _ e1 (by omega) (by omega) (by omega) (by omega) (by show s.1 + 1 + _ < _; omega) (xm_pi_i H)
    · obtain ⟨r1, e1, e2⟩ := Option.bind_eq_some_iff.mp (show (pf d (Int32.ofNat b) f 3 2 x).bind (fun r => (pf d (Int32.ofNat b) f d 0 2).bind fun q => some (r.1 - q.1, (60 : Int32) :: (r.2 ++ q.2))) = some r from hr')
      obtain ⟨r2, e3, e4⟩ := Option.bind_eq_some_iff.mp e2
      have e5 := Option.some.inj e4
      subst e5
      have hl : s.1 + ((r1.2 ++ r2.2).length + 1) < 1000 := hs
      rw [List.length_append] at hl
      have H' : g (r1.1 - r2.1) (TS A L F (rn (r1.2 ++ r2.2) (wr s 60))) := H
      rw [rn_app] at H'
      exact ih _ 3 2 x (dp + 1) _ r1 _ e1 (by omega) (by omega) (by omega) (by omega) (by show s.1 + 1 + _ < _; omega) (c_again (K := 2 * f + 2) (by omega) (by omega) hS (ih _ d 0 2 (dp + 1) _ r2 _ e3 hd (by omega) (by omega) (by omega) (by rw [rn_1]; show s.1 + 1 + _ + _ < _; omega) (xm_pi_i (xm_pi_i H'))))
    · obtain ⟨r1, e1, e2⟩ := Option.bind_eq_some_iff.mp (show (pf d (Int32.ofNat b) f 3 3 x).bind (fun r => some (r.1 + 1, (61 : Int32) :: r.2)) = some r from hr')
      have e3 := Option.some.inj e2
      subst e3
      have hl : s.1 + (r1.2.length + 1) < 1000 := hs
      exact ih _ 3 3 x (dp + 1) _ r1 _ e1 (by omega) (by omega) (by omega) (by omega) (by show s.1 + 1 + _ < _; omega) (xm_pi_i H)
    · obtain ⟨r1, e1, e2⟩ := Option.bind_eq_some_iff.mp (show (pf d (Int32.ofNat b) f 0 0 x).bind (fun r => some (r.1 * 2, (70 : Int32) :: r.2)) = some r from hr')
      have e3 := Option.some.inj e2
      subst e3
      have hl : s.1 + (r1.2.length + 1) < 1000 := hs
      exact ih _ 0 0 x (dp + 1) _ r1 _ e1 (by omega) (by omega) (by omega) (by omega) (by show s.1 + 1 + _ < _; omega) (xm_pi_i H)
    · obtain ⟨r1, e1, e2⟩ := Option.bind_eq_some_iff.mp (show (pf d (Int32.ofNat b) f 6 0 x).bind (fun r => some (r.1 - 1, (81 : Int32) :: r.2)) = some r from hr')
      have e3 := Option.some.inj e2
      subst e3
      have hl : s.1 + (r1.2.length + 1) < 1000 := hs
      exact ih _ 6 0 x (dp + 1) _ r1 _ e1 (by omega) (by omega) (by omega) (by omega) (by show s.1 + 1 + _ < _; omega) (xm_pi_i H)
    · obtain ⟨r1, e1, e2⟩ := Option.bind_eq_some_iff.mp (show (pf d (Int32.ofNat b) f 6 1 x).bind (fun r => (pf d (Int32.ofNat b) f d 2 2).bind fun q => some (r.1 + q.1, (80 : Int32) :: (r.2 ++ q.2))) = some r from hr')
      obtain ⟨r2, e3, e4⟩ := Option.bind_eq_some_iff.mp e2
      have e5 := Option.some.inj e4
      subst e5
      have hl : s.1 + ((r1.2 ++ r2.2).length + 1) < 1000 := hs
      rw [List.length_append] at hl
      have H' : g (r1.1 + r2.1) (TS A L F (rn (r1.2 ++ r2.2) (wr s 80))) := H
      rw [rn_app] at H'
      exact ih _ 6 1 x (dp + 1) _ r1 _ e1 (by omega) (by omega) (by omega) (by omega) (by show s.1 + 1 + _ < _; omega) (c_again (K := 2 * f + 2) (by omega) (by omega) hS (ih _ d 2 2 (dp + 1) _ r2 _ e3 hd (by omega) (by omega) (by omega) (by rw [rn_1]; show s.1 + 1 + _ + _ < _; omega) (xm_pi_i (xm_pi_i H'))))
end BOD
