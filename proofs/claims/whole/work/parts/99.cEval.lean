section TXC
variable {A : Nat → Nat → Int32} {L : Nat → Nat → Int64} {F : Nat → Nat → Int32} {A' F' : Nat → Nat → Int32} {gv : xm_H → Prop} {g : Int32 → xm_H → Prop} {P : Option Value → xm_H → Prop} {K t p r o m v s n k j i : Nat} {x x1 x2 y z : Int32} {h : xm_H} {ts acc l l1 l2 : List Nat} {st : List Int32} {fc : Nat → Int32} {f : Nat → Int32} {ls : List (List Nat × Option (List Nat))}
/-! what signs are worth -/
def two (s : Nat) (a b : Int32) : Int32 := if s = 37 then (if b = 0 then 0 else a - a / b * b) else if s = 38 then (if a = 0 then 0 else if b = 0 then 0 else 1) else if s = 42 then a * b else if s = 43 then a + b else if s = 45 then a - b else if s = 47 then (if b = 0 then 0 else a / b) else if s = 60 then (if a < b then 1 else 0) else if s = 61 then (if a = b then 1 else 0) else if s = 62 then (if b < a then 1 else 0) else (if a = 0 then (if b = 0 then 0 else 1) else 1)
def ev1 (fc : Nat → Int32) (s : Nat) (st : List Int32) : List Int32 := if 1000 ≤ s then Int32.ofNat (s - 1000) :: st else if s < 6 then fc s :: st else if s = 33 then (match st with
  | [] => []
  | a :: r => (if a = 0 then 1 else 0) :: r) else if s = 126 then (match st with
  | [] => []
  | a :: r => -a :: r) else (match st with
  | b :: a :: r => two s a b :: r
  | _ => [])
def evT (fc : Nat → Int32) : List Nat → List Int32 → List Int32
  | [], st => st
  | s :: l, st => evT fc l (ev1 fc s st)
theorem ev1_len (hh : ht1 s st.length = some k) : (ev1 fc s st).length = k := by
  unfold ht1 at hh
  unfold ev1
  by_cases h1 : 1000 ≤ s ∨ s < 6
  · rw [if_pos h1] at hh
    have := Option.some.inj hh
    by_cases h2 : 1000 ≤ s
    · rw [if_pos h2]; show st.length + 1 = k; omega
    · rw [if_neg h2, if_pos (by omega)]; show st.length + 1 = k; omega
  · rw [if_neg h1] at hh
    rw [if_neg (by omega), if_neg (by omega)]
    by_cases h2 : s = 33 ∨ s = 126
    · rw [if_pos h2] at hh
      split at hh
      · have := Option.some.inj hh
        match st with
        | [] => simp at *
        | a :: r =>
          by_cases h3 : s = 33
          · rw [if_pos h3]; exact this
          · rw [if_neg h3, if_pos (by omega)]; exact this
      · cases hh
    · rw [if_neg h2] at hh
      rw [if_neg (by omega), if_neg (by omega)]
      split at hh
      · have := Option.some.inj hh
        match st with
        | [] => simp at *
        | [a] => simp at *
        | b :: a :: r => simp at this ⊢; omega
      · cases hh
theorem evT_len : ∀ (l : List Nat) (st : List Int32) (k : Nat), htS l st.length = some k → (evT fc l st).length = k
  | [], st, k, h => Option.some.inj h
  | s :: l, st, k, h => by
    obtain ⟨m, e1, e2⟩ := Option.bind_eq_some_iff.mp h
    have e3 := ev1_len (fc := fc) e1
    rw [← e3] at e2
    exact evT_len l (ev1 fc s st) k e2
def vlS (fc : Nat → Int32) (l : List Nat) : Int32 := (evT fc l []).headD 0
theorem vl_eq (h : Gd l) : evT fc l [] = [vlS fc l] := by
  have e := evT_len (fc := fc) l [] 1 (h.1 0)
  unfold vlS
  match evT fc l [], e with
  | [a], _ => rfl
def evLs : List (List Nat × Option (List Nat)) → (Nat → Int32) → Int32
  | [], _ => 0
  | (l1, none) :: _, fc => vlS fc l1
  | (l1, some l2) :: r, fc => if vlS fc l1 = 0 then evLs r fc else vlS fc l2
/-- the list, top first, stands in the row f -/
def SkR (f : Nat → Int32) : List Int32 → Prop
  | [] => True
  | v :: r => f r.length = v ∧ SkR f r
theorem SkR.up : ∀ (r : List Int32) (k : Nat) (v : Int32), SkR f r → r.length ≤ k → SkR (upd f k v) r
  | [], _, _, _, _ => trivial
  | a :: r, k, v, h, hk => ⟨(p_ne (by simp at hk; omega)).trans h.1, SkR.up r k v h.2 (by simp at hk; omega)⟩
theorem SkR.push {v : Int32} (h : SkR f st) : SkR (upd f st.length v) (v :: st) := ⟨p_eq, SkR.up st _ v h (Nat.le_refl _)⟩
/-! two signs put together -/
theorem ops10 (h : rgN s ≤ 4) : s = 37 ∨ s = 38 ∨ s = 42 ∨ s = 43 ∨ s = 45 ∨ s = 47 ∨ s = 60 ∨ s = 61 ∨ s = 62 ∨ s = 124 := by
  unfold rgN at h
  split at h
  · omega
  · split at h
    · omega
    · split at h
      · omega
      · split at h
        · omega
        · split at h <;> omega
theorem c_combine (hK : 0 < K) (hs : rgN s ≤ 4) (H : g (two s x y) h) : xm_Call K sX6_combine 99 [.int (Int32.ofNat s), .int x, .int y] h (xm_pi g) := by
  refine eX6_combine (K := 0) hK ?_
  rcases ops10 hs with rfl | rfl | rfl | rfl | rfl | rfl | rfl | rfl | rfl | rfl <;> (repeat (first | rw [if_pos (by decide)] | rw [if_neg (by decide)]))
  · have e : two 37 x y = if y = 0 then 0 else x - x / y * y := rfl
    rw [e] at H
    by_cases h0 : y = 0
    · rw [if_pos h0] at H ⊢; exact xm_pi_i H
    · rw [if_neg h0] at H ⊢; exact ⟨h0, xm_pi_i H⟩
  · have e : two 38 x y = if x = 0 then 0 else if y = 0 then 0 else 1 := rfl
    rw [e] at H
    by_cases h0 : x = 0
    · rw [if_pos h0] at H ⊢; exact xm_pi_i H
    · rw [if_neg h0] at H ⊢
      by_cases h1 : y = 0
      · rw [if_pos h1] at H ⊢; exact xm_pi_i H
      · rw [if_neg h1] at H ⊢; exact xm_pi_i H
  · exact xm_pi_i H
  · exact xm_pi_i H
  · exact xm_pi_i H
  · have e : two 47 x y = if y = 0 then 0 else x / y := rfl
    rw [e] at H
    by_cases h0 : y = 0
    · rw [if_pos h0] at H ⊢; exact xm_pi_i H
    · rw [if_neg h0] at H ⊢; exact ⟨h0, xm_pi_i H⟩
  · have e : two 60 x y = if x < y then 1 else 0 := rfl
    rw [e] at H
    by_cases h0 : x < y
    · rw [if_pos h0] at H ⊢; exact xm_pi_i H
    · rw [if_neg h0] at H ⊢; exact xm_pi_i H
  · have e : two 61 x y = if x = y then 1 else 0 := rfl
    rw [e] at H
    by_cases h0 : x = y
    · rw [if_pos h0] at H ⊢; exact xm_pi_i H
    · rw [if_neg h0] at H ⊢; exact xm_pi_i H
  · have e : two 62 x y = if y < x then 1 else 0 := rfl
    rw [e] at H
    by_cases h0 : y < x
    · rw [if_pos h0] at H ⊢; exact xm_pi_i H
    · rw [if_neg h0] at H ⊢; exact xm_pi_i H
  · have e : two 124 x y = if x = 0 then (if y = 0 then 0 else 1) else 1 := rfl
    rw [e] at H
    by_cases h0 : x = 0
    · rw [if_pos h0] at H ⊢
      by_cases h1 : y = 0
      · rw [if_pos h1] at H ⊢; exact xm_pi_i H
      · rw [if_neg h1] at H ⊢; exact xm_pi_i H
    · rw [if_neg h0] at H ⊢; exact xm_pi_i H
theorem div_m1 (x : Int32) : x / (-1) = -x := by
  apply Int32.toInt_inj.mp
  have l1 := Int32.toInt_lt x
  have l2 := Int32.le_toInt x
  rw [Int32.toInt_div, Int32.toInt_neg x, show (-1 : Int32).toInt = -1 by decide, Int.tdiv_neg, Int.tdiv_one]
theorem rem_m1 (x : Int32) : x - x / (-1) * (-1) = 0 := by
  rw [div_m1, Int32.neg_mul, Int32.mul_neg, Int32.neg_neg, Int32.mul_one, Int32.sub_self]
theorem m_twoOf (hK : 0 < K) (hs : rgN s ≤ 4) (H : g (two s x y) h) : xm_Call K sX9_twoOf 99 [.int (Int32.ofNat s), .int x, .int y] h (xm_pi g) := by
  refine eX9_twoOf (K := 0) hK ?_
  rcases ops10 hs with rfl | rfl | rfl | rfl | rfl | rfl | rfl | rfl | rfl | rfl <;> (repeat (first | rw [if_pos (by decide)] | rw [if_neg (by decide)]))
  · have e : two 37 x y = if y = 0 then 0 else x - x / y * y := rfl
    rw [e] at H
    by_cases h0 : y = 0
    · rw [if_pos h0] at H ⊢; exact xm_pi_i H
    · rw [if_neg h0] at H ⊢
      by_cases h1 : y = -1
      · rw [if_pos h1]
        rw [h1, rem_m1] at H
        exact xm_pi_i H
      · rw [if_neg h1]; exact ⟨h0, xm_pi_i H⟩
  · have e : two 38 x y = if x = 0 then 0 else if y = 0 then 0 else 1 := rfl
    rw [e] at H
    by_cases h0 : x = 0
    · rw [if_pos h0] at H ⊢; exact xm_pi_i H
    · rw [if_neg h0] at H ⊢
      by_cases h1 : y = 0
      · rw [if_pos h1] at H ⊢; exact xm_pi_i H
      · rw [if_neg h1] at H ⊢; exact xm_pi_i H
  · exact xm_pi_i H
  · exact xm_pi_i H
  · exact xm_pi_i H
  · have e : two 47 x y = if y = 0 then 0 else x / y := rfl
    rw [e] at H
    by_cases h0 : y = 0
    · rw [if_pos h0] at H ⊢; exact xm_pi_i H
    · rw [if_neg h0] at H ⊢
      by_cases h1 : y = -1
      · rw [if_pos h1]
        rw [h1, div_m1] at H
        exact xm_pi_i H
      · rw [if_neg h1]; exact ⟨h0, xm_pi_i H⟩
  · have e : two 60 x y = if x < y then 1 else 0 := rfl
    rw [e] at H
    by_cases h0 : x < y
    · rw [if_pos h0] at H ⊢; exact xm_pi_i H
    · rw [if_neg h0] at H ⊢; exact xm_pi_i H
  · have e : two 61 x y = if x = y then 1 else 0 := rfl
    rw [e] at H
    by_cases h0 : x = y
    · rw [if_pos h0] at H ⊢; exact xm_pi_i H
    · rw [if_neg h0] at H ⊢; exact xm_pi_i H
  · have e : two 62 x y = if y < x then 1 else 0 := rfl
    rw [e] at H
    by_cases h0 : y < x
    · rw [if_pos h0] at H ⊢; exact xm_pi_i H
    · rw [if_neg h0] at H ⊢; exact xm_pi_i H
  · have e : two 124 x y = if x = 0 then (if y = 0 then 0 else 1) else 1 := rfl
    rw [e] at H
    by_cases h0 : x = 0
    · rw [if_pos h0] at H ⊢
      by_cases h1 : y = 0
      · rw [if_pos h1] at H ⊢; exact xm_pi_i H
      · rw [if_neg h1] at H ⊢; exact xm_pi_i H
    · rw [if_neg h0] at H ⊢; exact xm_pi_i H
end TXC
