def xs_sh : Nat → Option Nat := fun j => match j with
  | 0 => some 32
  | 1 => some 34
  | 2 => some 36
  | 3 => some 38
  | 4 => some 40
  | 5 => some 42
  | _ => none
/-- all cells of the law: the class's from 0 on, the reference's from 44 on -/
def HP (A : Nat → Nat → Int32) (L : Nat → Nat → Int64) (F : Nat → Nat → Int32) : xm_H := [
  .inr (8, [.ref 1, .ref 3, .ref 5, .ref 13, .ref 16, .ref 20, .ref 21, .ref 23, .int (F 0 8), .ref 24, .ref 25, .ref 28, .ref 31]),
  .inr (7, [.ref 2, .int (F 1 1)]),
  .inl (0, 67, .inl (A 2)),
  .inr (7, [.ref 4, .int (F 3 1)]),
  .inl (0, 67, .inl (A 4)),
  .inr (4, [.ref 6, .ref 9, .ref 10, .ref 11, .ref 12, .int (F 5 5), .int (F 5 6), .int (F 5 7), .int (F 5 8), .int (F 5 9), .int (F 5 10)]),
  .inr (6, [.ref 7, .int (F 6 1), .ref 8]),
  .inl (0, 128, .inl (A 7)),
  .inl (0, 128, .inl (A 8)),
  .inl (0, 6, .inl (A 9)),
  .inl (0, 8, .inl (A 10)),
  .inl (0, 8, .inl (A 11)),
  .inl (0, 8, .inl (A 12)),
  .inr (3, [.ref 14, .int (F 13 1), .int (F 13 2), .ref 15, .int (F 13 4)]),
  .inl (0, 120, .inl (A 14)),
  .inl (0, 128, .inl (A 15)),
  .inr (2, [.ref 17, .ref 18, .ref 19, .int (F 16 3), .int (F 16 4)]),
  .inl (0, 40, .inl (A 17)),
  .inl (0, 40, .inl (A 18)),
  .inl (0, 40, .inl (A 19)),
  .inl (0, 6, .inl (A 20)),
  .inr (7, [.ref 22, .int (F 21 1)]),
  .inl (0, 67, .inl (A 22)),
  .inl (0, 6, .inl (A 23)),
  .inl (0, 1024, .inl (A 24)),
  .inr (0, [.ref 26, .ref 27, .int (F 25 2)]),
  .inl (0, 20, .inl (A 26)),
  .inl (0, 20, .inl (A 27)),
  .inr (1, [.ref 29, .int (F 28 1), .ref 30, .int (F 28 3), .int (F 28 4)]),
  .inl (0, 50, .inl (A 29)),
  .inl (0, 24, .inl (A 30)),
  .inl (4, 6, .inr (.inr (.inr (.inr xs_sh)))),
  .inr (5, [.int (F 32 0), .int (F 32 1), .int (F 32 2), .ref 33]),
  .inl (3, 60, .inr (.inl (L 33))),
  .inr (5, [.int (F 34 0), .int (F 34 1), .int (F 34 2), .ref 35]),
  .inl (3, 60, .inr (.inl (L 35))),
  .inr (5, [.int (F 36 0), .int (F 36 1), .int (F 36 2), .ref 37]),
  .inl (3, 60, .inr (.inl (L 37))),
  .inr (5, [.int (F 38 0), .int (F 38 1), .int (F 38 2), .ref 39]),
  .inl (3, 60, .inr (.inl (L 39))),
  .inr (5, [.int (F 40 0), .int (F 40 1), .int (F 40 2), .ref 41]),
  .inl (3, 60, .inr (.inl (L 41))),
  .inr (5, [.int (F 42 0), .int (F 42 1), .int (F 42 2), .ref 43]),
  .inl (3, 60, .inr (.inl (L 43))),
  .inr (9, [.int (F 44 0), .int (F 44 1), .ref 45, .ref 46, .ref 47, .ref 48, .ref 49, .ref 50, .ref 51, .ref 52, .ref 53, .int (F 44 11), .int (F 44 12), .ref 54, .ref 55, .ref 56, .ref 57, .ref 58, .int (F 44 18), .int (F 44 19), .int (F 44 20), .int (F 44 21), .int (F 44 22), .ref 59, .ref 60, .ref 61, .ref 62, .ref 63, .ref 64, .ref 65, .int (F 44 30), .ref 66, .ref 67, .ref 68, .ref 69, .ref 70, .int (F 44 36), .int (F 44 37), .int (F 44 38), .int (F 44 39), .ref 71, .int (F 44 41), .int (F 44 42), .int (F 44 43), .ref 72, .int (F 44 45), .int (F 44 46), .int (F 44 47), .ref 73, .ref 74, .int (F 44 50), .ref 75, .int (F 44 52), .ref 76, .ref 77, .ref 78, .ref 79, .ref 80]),
  .inl (0, 8, .inl (A 45)),
  .inl (0, 8, .inl (A 46)),
  .inl (0, 8, .inl (A 47)),
  .inl (0, 8, .inl (A 48)),
  .inl (0, 8, .inl (A 49)),
  .inl (0, 8, .inl (A 50)),
  .inl (0, 8, .inl (A 51)),
  .inl (0, 8, .inl (A 52)),
  .inl (0, 3, .inl (A 53)),
  .inl (0, 40, .inl (A 54)),
  .inl (0, 40, .inl (A 55)),
  .inl (0, 40, .inl (A 56)),
  .inl (0, 40, .inl (A 57)),
  .inl (1, 120, .inl (A 58)),
  .inl (1, 260, .inl (A 59)),
  .inl (0, 260, .inl (A 60)),
  .inl (0, 2, .inl (A 61)),
  .inl (2, 122, .inl (A 62)),
  .inl (2, 122, .inl (A 63)),
  .inl (0, 6, .inl (A 64)),
  .inl (0, 130, .inl (A 65)),
  .inl (0, 8, .inl (A 66)),
  .inl (0, 8, .inl (A 67)),
  .inl (0, 8, .inl (A 68)),
  .inl (0, 8, .inl (A 69)),
  .inl (0, 8, .inl (A 70)),
  .inl (0, 8, .inl (A 71)),
  .inl (0, 6, .inl (A 72)),
  .inl (0, 32, .inl (A 73)),
  .inl (0, 6, .inl (A 74)),
  .inl (0, 50, .inl (A 75)),
  .inl (0, 24, .inl (A 76)),
  .inl (0, 6, .inl (A 77)),
  .inl (0, 6, .inl (A 78)),
  .inl (3, 360, .inr (.inl (L 79))),
  .inl (3, 60, .inr (.inl (L 80)))]
section HPL
variable {A : Nat → Nat → Int32} {L : Nat → Nat → Int64} {F : Nat → Nat → Int32} {i x v : Int32} {y : Int64} {j : Nat}
theorem xs_nn {j : Nat} (h : j < 2147483648) : ¬ Int32.ofNat j < 0 := by
  rw [Int32.lt_iff_toInt_lt, Int32.toInt_ofNat_of_lt (by omega)]; simp
theorem xs_tn {j : Nat} (h : j < 2147483648) : (Int32.ofNat j).toNatClampNeg = j := by
  show (Int32.ofNat j).toInt.toNat = j
  rw [Int32.toInt_ofNat_of_lt (by omega)]; simp
theorem p_0_8 : xm_put (HP A L F) 0 8 8 (.int v) = some (HP A L (va_up F 0 (va_up (F 0) 8 v))) := rfl
theorem p_1_1 : xm_put (HP A L F) 1 7 1 (.int v) = some (HP A L (va_up F 1 (va_up (F 1) 1 v))) := rfl
theorem l_2 (h0 : ¬ i < 0) (h1 : i.toNatClampNeg < 67) : xm_ld xm_st (HP A L F) 0 2 i = some (A 2 i.toNatClampNeg) := by
  show (if ¬ i < 0 ∧ i.toNatClampNeg < 67 then some (A 2 i.toNatClampNeg) else none) = _
  rw [if_pos ⟨h0, h1⟩]
theorem s_2 (h0 : ¬ i < 0) (h1 : i.toNatClampNeg < 67) : xm_sto (HP A L F) 0 2 i x = some (HP (va_up A 2 (upd (A 2) i.toNatClampNeg x)) L F) := by
  show (if 0 = 0 ∧ ¬ i < 0 ∧ i.toNatClampNeg < 67 then some ((HP A L F).set 2 (.inl (0, 67, .inl (upd (A 2) i.toNatClampNeg (xm_nar 0 x))))) else none) = _
  rw [if_pos ⟨rfl, h0, h1⟩]
  rfl
theorem ln_2 (hj : j < 67) : xm_ld xm_st (HP A L F) 0 2 (Int32.ofNat j) = some (A 2 j) := by
  have h := xs_tn (j := j) (by omega)
  rw [l_2 (xs_nn (by omega)) (by rw [h]; exact hj), h]
theorem sn_2 (hj : j < 67) : xm_sto (HP A L F) 0 2 (Int32.ofNat j) x = some (HP (va_up A 2 (upd (A 2) j x)) L F) := by
  have h := xs_tn (j := j) (by omega)
  rw [s_2 (xs_nn (by omega)) (by rw [h]; exact hj), h]
theorem p_3_1 : xm_put (HP A L F) 3 7 1 (.int v) = some (HP A L (va_up F 3 (va_up (F 3) 1 v))) := rfl
theorem l_4 (h0 : ¬ i < 0) (h1 : i.toNatClampNeg < 67) : xm_ld xm_st (HP A L F) 0 4 i = some (A 4 i.toNatClampNeg) := by
  show (if ¬ i < 0 ∧ i.toNatClampNeg < 67 then some (A 4 i.toNatClampNeg) else none) = _
  rw [if_pos ⟨h0, h1⟩]
theorem s_4 (h0 : ¬ i < 0) (h1 : i.toNatClampNeg < 67) : xm_sto (HP A L F) 0 4 i x = some (HP (va_up A 4 (upd (A 4) i.toNatClampNeg x)) L F) := by
  show (if 0 = 0 ∧ ¬ i < 0 ∧ i.toNatClampNeg < 67 then some ((HP A L F).set 4 (.inl (0, 67, .inl (upd (A 4) i.toNatClampNeg (xm_nar 0 x))))) else none) = _
  rw [if_pos ⟨rfl, h0, h1⟩]
  rfl
theorem ln_4 (hj : j < 67) : xm_ld xm_st (HP A L F) 0 4 (Int32.ofNat j) = some (A 4 j) := by
  have h := xs_tn (j := j) (by omega)
  rw [l_4 (xs_nn (by omega)) (by rw [h]; exact hj), h]
theorem sn_4 (hj : j < 67) : xm_sto (HP A L F) 0 4 (Int32.ofNat j) x = some (HP (va_up A 4 (upd (A 4) j x)) L F) := by
  have h := xs_tn (j := j) (by omega)
  rw [s_4 (xs_nn (by omega)) (by rw [h]; exact hj), h]
theorem p_5_5 : xm_put (HP A L F) 5 4 5 (.int v) = some (HP A L (va_up F 5 (va_up (F 5) 5 v))) := rfl
theorem p_5_6 : xm_put (HP A L F) 5 4 6 (.int v) = some (HP A L (va_up F 5 (va_up (F 5) 6 v))) := rfl
theorem p_5_7 : xm_put (HP A L F) 5 4 7 (.int v) = some (HP A L (va_up F 5 (va_up (F 5) 7 v))) := rfl
theorem p_5_8 : xm_put (HP A L F) 5 4 8 (.int v) = some (HP A L (va_up F 5 (va_up (F 5) 8 v))) := rfl
theorem p_5_9 : xm_put (HP A L F) 5 4 9 (.int v) = some (HP A L (va_up F 5 (va_up (F 5) 9 v))) := rfl
theorem p_5_10 : xm_put (HP A L F) 5 4 10 (.int v) = some (HP A L (va_up F 5 (va_up (F 5) 10 v))) := rfl
theorem p_6_1 : xm_put (HP A L F) 6 6 1 (.int v) = some (HP A L (va_up F 6 (va_up (F 6) 1 v))) := rfl
theorem l_7 (h0 : ¬ i < 0) (h1 : i.toNatClampNeg < 128) : xm_ld xm_st (HP A L F) 0 7 i = some (A 7 i.toNatClampNeg) := by
  show (if ¬ i < 0 ∧ i.toNatClampNeg < 128 then some (A 7 i.toNatClampNeg) else none) = _
  rw [if_pos ⟨h0, h1⟩]
theorem s_7 (h0 : ¬ i < 0) (h1 : i.toNatClampNeg < 128) : xm_sto (HP A L F) 0 7 i x = some (HP (va_up A 7 (upd (A 7) i.toNatClampNeg x)) L F) := by
  show (if 0 = 0 ∧ ¬ i < 0 ∧ i.toNatClampNeg < 128 then some ((HP A L F).set 7 (.inl (0, 128, .inl (upd (A 7) i.toNatClampNeg (xm_nar 0 x))))) else none) = _
  rw [if_pos ⟨rfl, h0, h1⟩]
  rfl
theorem ln_7 (hj : j < 128) : xm_ld xm_st (HP A L F) 0 7 (Int32.ofNat j) = some (A 7 j) := by
  have h := xs_tn (j := j) (by omega)
  rw [l_7 (xs_nn (by omega)) (by rw [h]; exact hj), h]
theorem sn_7 (hj : j < 128) : xm_sto (HP A L F) 0 7 (Int32.ofNat j) x = some (HP (va_up A 7 (upd (A 7) j x)) L F) := by
  have h := xs_tn (j := j) (by omega)
  rw [s_7 (xs_nn (by omega)) (by rw [h]; exact hj), h]
theorem l_8 (h0 : ¬ i < 0) (h1 : i.toNatClampNeg < 128) : xm_ld xm_st (HP A L F) 0 8 i = some (A 8 i.toNatClampNeg) := by
  show (if ¬ i < 0 ∧ i.toNatClampNeg < 128 then some (A 8 i.toNatClampNeg) else none) = _
  rw [if_pos ⟨h0, h1⟩]
theorem s_8 (h0 : ¬ i < 0) (h1 : i.toNatClampNeg < 128) : xm_sto (HP A L F) 0 8 i x = some (HP (va_up A 8 (upd (A 8) i.toNatClampNeg x)) L F) := by
  show (if 0 = 0 ∧ ¬ i < 0 ∧ i.toNatClampNeg < 128 then some ((HP A L F).set 8 (.inl (0, 128, .inl (upd (A 8) i.toNatClampNeg (xm_nar 0 x))))) else none) = _
  rw [if_pos ⟨rfl, h0, h1⟩]
  rfl
theorem ln_8 (hj : j < 128) : xm_ld xm_st (HP A L F) 0 8 (Int32.ofNat j) = some (A 8 j) := by
  have h := xs_tn (j := j) (by omega)
  rw [l_8 (xs_nn (by omega)) (by rw [h]; exact hj), h]
theorem sn_8 (hj : j < 128) : xm_sto (HP A L F) 0 8 (Int32.ofNat j) x = some (HP (va_up A 8 (upd (A 8) j x)) L F) := by
  have h := xs_tn (j := j) (by omega)
  rw [s_8 (xs_nn (by omega)) (by rw [h]; exact hj), h]
theorem l_9 (h0 : ¬ i < 0) (h1 : i.toNatClampNeg < 6) : xm_ld xm_st (HP A L F) 0 9 i = some (A 9 i.toNatClampNeg) := by
  show (if ¬ i < 0 ∧ i.toNatClampNeg < 6 then some (A 9 i.toNatClampNeg) else none) = _
  rw [if_pos ⟨h0, h1⟩]
theorem s_9 (h0 : ¬ i < 0) (h1 : i.toNatClampNeg < 6) : xm_sto (HP A L F) 0 9 i x = some (HP (va_up A 9 (upd (A 9) i.toNatClampNeg x)) L F) := by
  show (if 0 = 0 ∧ ¬ i < 0 ∧ i.toNatClampNeg < 6 then some ((HP A L F).set 9 (.inl (0, 6, .inl (upd (A 9) i.toNatClampNeg (xm_nar 0 x))))) else none) = _
  rw [if_pos ⟨rfl, h0, h1⟩]
  rfl
theorem ln_9 (hj : j < 6) : xm_ld xm_st (HP A L F) 0 9 (Int32.ofNat j) = some (A 9 j) := by
  have h := xs_tn (j := j) (by omega)
  rw [l_9 (xs_nn (by omega)) (by rw [h]; exact hj), h]
theorem sn_9 (hj : j < 6) : xm_sto (HP A L F) 0 9 (Int32.ofNat j) x = some (HP (va_up A 9 (upd (A 9) j x)) L F) := by
  have h := xs_tn (j := j) (by omega)
  rw [s_9 (xs_nn (by omega)) (by rw [h]; exact hj), h]
theorem l_10 (h0 : ¬ i < 0) (h1 : i.toNatClampNeg < 8) : xm_ld xm_st (HP A L F) 0 10 i = some (A 10 i.toNatClampNeg) := by
  show (if ¬ i < 0 ∧ i.toNatClampNeg < 8 then some (A 10 i.toNatClampNeg) else none) = _
  rw [if_pos ⟨h0, h1⟩]
theorem s_10 (h0 : ¬ i < 0) (h1 : i.toNatClampNeg < 8) : xm_sto (HP A L F) 0 10 i x = some (HP (va_up A 10 (upd (A 10) i.toNatClampNeg x)) L F) := by
  show (if 0 = 0 ∧ ¬ i < 0 ∧ i.toNatClampNeg < 8 then some ((HP A L F).set 10 (.inl (0, 8, .inl (upd (A 10) i.toNatClampNeg (xm_nar 0 x))))) else none) = _
  rw [if_pos ⟨rfl, h0, h1⟩]
  rfl
theorem ln_10 (hj : j < 8) : xm_ld xm_st (HP A L F) 0 10 (Int32.ofNat j) = some (A 10 j) := by
  have h := xs_tn (j := j) (by omega)
  rw [l_10 (xs_nn (by omega)) (by rw [h]; exact hj), h]
theorem sn_10 (hj : j < 8) : xm_sto (HP A L F) 0 10 (Int32.ofNat j) x = some (HP (va_up A 10 (upd (A 10) j x)) L F) := by
  have h := xs_tn (j := j) (by omega)
  rw [s_10 (xs_nn (by omega)) (by rw [h]; exact hj), h]
theorem l_11 (h0 : ¬ i < 0) (h1 : i.toNatClampNeg < 8) : xm_ld xm_st (HP A L F) 0 11 i = some (A 11 i.toNatClampNeg) := by
  show (if ¬ i < 0 ∧ i.toNatClampNeg < 8 then some (A 11 i.toNatClampNeg) else none) = _
  rw [if_pos ⟨h0, h1⟩]
theorem s_11 (h0 : ¬ i < 0) (h1 : i.toNatClampNeg < 8) : xm_sto (HP A L F) 0 11 i x = some (HP (va_up A 11 (upd (A 11) i.toNatClampNeg x)) L F) := by
  show (if 0 = 0 ∧ ¬ i < 0 ∧ i.toNatClampNeg < 8 then some ((HP A L F).set 11 (.inl (0, 8, .inl (upd (A 11) i.toNatClampNeg (xm_nar 0 x))))) else none) = _
  rw [if_pos ⟨rfl, h0, h1⟩]
  rfl
theorem ln_11 (hj : j < 8) : xm_ld xm_st (HP A L F) 0 11 (Int32.ofNat j) = some (A 11 j) := by
  have h := xs_tn (j := j) (by omega)
  rw [l_11 (xs_nn (by omega)) (by rw [h]; exact hj), h]
theorem sn_11 (hj : j < 8) : xm_sto (HP A L F) 0 11 (Int32.ofNat j) x = some (HP (va_up A 11 (upd (A 11) j x)) L F) := by
  have h := xs_tn (j := j) (by omega)
  rw [s_11 (xs_nn (by omega)) (by rw [h]; exact hj), h]
theorem l_12 (h0 : ¬ i < 0) (h1 : i.toNatClampNeg < 8) : xm_ld xm_st (HP A L F) 0 12 i = some (A 12 i.toNatClampNeg) := by
  show (if ¬ i < 0 ∧ i.toNatClampNeg < 8 then some (A 12 i.toNatClampNeg) else none) = _
  rw [if_pos ⟨h0, h1⟩]
theorem s_12 (h0 : ¬ i < 0) (h1 : i.toNatClampNeg < 8) : xm_sto (HP A L F) 0 12 i x = some (HP (va_up A 12 (upd (A 12) i.toNatClampNeg x)) L F) := by
  show (if 0 = 0 ∧ ¬ i < 0 ∧ i.toNatClampNeg < 8 then some ((HP A L F).set 12 (.inl (0, 8, .inl (upd (A 12) i.toNatClampNeg (xm_nar 0 x))))) else none) = _
  rw [if_pos ⟨rfl, h0, h1⟩]
  rfl
theorem ln_12 (hj : j < 8) : xm_ld xm_st (HP A L F) 0 12 (Int32.ofNat j) = some (A 12 j) := by
  have h := xs_tn (j := j) (by omega)
  rw [l_12 (xs_nn (by omega)) (by rw [h]; exact hj), h]
theorem sn_12 (hj : j < 8) : xm_sto (HP A L F) 0 12 (Int32.ofNat j) x = some (HP (va_up A 12 (upd (A 12) j x)) L F) := by
  have h := xs_tn (j := j) (by omega)
  rw [s_12 (xs_nn (by omega)) (by rw [h]; exact hj), h]
theorem p_13_1 : xm_put (HP A L F) 13 3 1 (.int v) = some (HP A L (va_up F 13 (va_up (F 13) 1 v))) := rfl
theorem p_13_2 : xm_put (HP A L F) 13 3 2 (.int v) = some (HP A L (va_up F 13 (va_up (F 13) 2 v))) := rfl
theorem p_13_4 : xm_put (HP A L F) 13 3 4 (.int v) = some (HP A L (va_up F 13 (va_up (F 13) 4 v))) := rfl
theorem l_14 (h0 : ¬ i < 0) (h1 : i.toNatClampNeg < 120) : xm_ld xm_st (HP A L F) 0 14 i = some (A 14 i.toNatClampNeg) := by
  show (if ¬ i < 0 ∧ i.toNatClampNeg < 120 then some (A 14 i.toNatClampNeg) else none) = _
  rw [if_pos ⟨h0, h1⟩]
theorem s_14 (h0 : ¬ i < 0) (h1 : i.toNatClampNeg < 120) : xm_sto (HP A L F) 0 14 i x = some (HP (va_up A 14 (upd (A 14) i.toNatClampNeg x)) L F) := by
  show (if 0 = 0 ∧ ¬ i < 0 ∧ i.toNatClampNeg < 120 then some ((HP A L F).set 14 (.inl (0, 120, .inl (upd (A 14) i.toNatClampNeg (xm_nar 0 x))))) else none) = _
  rw [if_pos ⟨rfl, h0, h1⟩]
  rfl
theorem ln_14 (hj : j < 120) : xm_ld xm_st (HP A L F) 0 14 (Int32.ofNat j) = some (A 14 j) := by
  have h := xs_tn (j := j) (by omega)
  rw [l_14 (xs_nn (by omega)) (by rw [h]; exact hj), h]
theorem sn_14 (hj : j < 120) : xm_sto (HP A L F) 0 14 (Int32.ofNat j) x = some (HP (va_up A 14 (upd (A 14) j x)) L F) := by
  have h := xs_tn (j := j) (by omega)
  rw [s_14 (xs_nn (by omega)) (by rw [h]; exact hj), h]
theorem l_15 (h0 : ¬ i < 0) (h1 : i.toNatClampNeg < 128) : xm_ld xm_st (HP A L F) 0 15 i = some (A 15 i.toNatClampNeg) := by
  show (if ¬ i < 0 ∧ i.toNatClampNeg < 128 then some (A 15 i.toNatClampNeg) else none) = _
  rw [if_pos ⟨h0, h1⟩]
theorem s_15 (h0 : ¬ i < 0) (h1 : i.toNatClampNeg < 128) : xm_sto (HP A L F) 0 15 i x = some (HP (va_up A 15 (upd (A 15) i.toNatClampNeg x)) L F) := by
  show (if 0 = 0 ∧ ¬ i < 0 ∧ i.toNatClampNeg < 128 then some ((HP A L F).set 15 (.inl (0, 128, .inl (upd (A 15) i.toNatClampNeg (xm_nar 0 x))))) else none) = _
  rw [if_pos ⟨rfl, h0, h1⟩]
  rfl
theorem ln_15 (hj : j < 128) : xm_ld xm_st (HP A L F) 0 15 (Int32.ofNat j) = some (A 15 j) := by
  have h := xs_tn (j := j) (by omega)
  rw [l_15 (xs_nn (by omega)) (by rw [h]; exact hj), h]
theorem sn_15 (hj : j < 128) : xm_sto (HP A L F) 0 15 (Int32.ofNat j) x = some (HP (va_up A 15 (upd (A 15) j x)) L F) := by
  have h := xs_tn (j := j) (by omega)
  rw [s_15 (xs_nn (by omega)) (by rw [h]; exact hj), h]
theorem p_16_3 : xm_put (HP A L F) 16 2 3 (.int v) = some (HP A L (va_up F 16 (va_up (F 16) 3 v))) := rfl
theorem p_16_4 : xm_put (HP A L F) 16 2 4 (.int v) = some (HP A L (va_up F 16 (va_up (F 16) 4 v))) := rfl
theorem l_17 (h0 : ¬ i < 0) (h1 : i.toNatClampNeg < 40) : xm_ld xm_st (HP A L F) 0 17 i = some (A 17 i.toNatClampNeg) := by
  show (if ¬ i < 0 ∧ i.toNatClampNeg < 40 then some (A 17 i.toNatClampNeg) else none) = _
  rw [if_pos ⟨h0, h1⟩]
theorem s_17 (h0 : ¬ i < 0) (h1 : i.toNatClampNeg < 40) : xm_sto (HP A L F) 0 17 i x = some (HP (va_up A 17 (upd (A 17) i.toNatClampNeg x)) L F) := by
  show (if 0 = 0 ∧ ¬ i < 0 ∧ i.toNatClampNeg < 40 then some ((HP A L F).set 17 (.inl (0, 40, .inl (upd (A 17) i.toNatClampNeg (xm_nar 0 x))))) else none) = _
  rw [if_pos ⟨rfl, h0, h1⟩]
  rfl
theorem ln_17 (hj : j < 40) : xm_ld xm_st (HP A L F) 0 17 (Int32.ofNat j) = some (A 17 j) := by
  have h := xs_tn (j := j) (by omega)
  rw [l_17 (xs_nn (by omega)) (by rw [h]; exact hj), h]
theorem sn_17 (hj : j < 40) : xm_sto (HP A L F) 0 17 (Int32.ofNat j) x = some (HP (va_up A 17 (upd (A 17) j x)) L F) := by
  have h := xs_tn (j := j) (by omega)
  rw [s_17 (xs_nn (by omega)) (by rw [h]; exact hj), h]
theorem l_18 (h0 : ¬ i < 0) (h1 : i.toNatClampNeg < 40) : xm_ld xm_st (HP A L F) 0 18 i = some (A 18 i.toNatClampNeg) := by
  show (if ¬ i < 0 ∧ i.toNatClampNeg < 40 then some (A 18 i.toNatClampNeg) else none) = _
  rw [if_pos ⟨h0, h1⟩]
theorem s_18 (h0 : ¬ i < 0) (h1 : i.toNatClampNeg < 40) : xm_sto (HP A L F) 0 18 i x = some (HP (va_up A 18 (upd (A 18) i.toNatClampNeg x)) L F) := by
  show (if 0 = 0 ∧ ¬ i < 0 ∧ i.toNatClampNeg < 40 then some ((HP A L F).set 18 (.inl (0, 40, .inl (upd (A 18) i.toNatClampNeg (xm_nar 0 x))))) else none) = _
  rw [if_pos ⟨rfl, h0, h1⟩]
  rfl
theorem ln_18 (hj : j < 40) : xm_ld xm_st (HP A L F) 0 18 (Int32.ofNat j) = some (A 18 j) := by
  have h := xs_tn (j := j) (by omega)
  rw [l_18 (xs_nn (by omega)) (by rw [h]; exact hj), h]
theorem sn_18 (hj : j < 40) : xm_sto (HP A L F) 0 18 (Int32.ofNat j) x = some (HP (va_up A 18 (upd (A 18) j x)) L F) := by
  have h := xs_tn (j := j) (by omega)
  rw [s_18 (xs_nn (by omega)) (by rw [h]; exact hj), h]
theorem l_19 (h0 : ¬ i < 0) (h1 : i.toNatClampNeg < 40) : xm_ld xm_st (HP A L F) 0 19 i = some (A 19 i.toNatClampNeg) := by
  show (if ¬ i < 0 ∧ i.toNatClampNeg < 40 then some (A 19 i.toNatClampNeg) else none) = _
  rw [if_pos ⟨h0, h1⟩]
theorem s_19 (h0 : ¬ i < 0) (h1 : i.toNatClampNeg < 40) : xm_sto (HP A L F) 0 19 i x = some (HP (va_up A 19 (upd (A 19) i.toNatClampNeg x)) L F) := by
  show (if 0 = 0 ∧ ¬ i < 0 ∧ i.toNatClampNeg < 40 then some ((HP A L F).set 19 (.inl (0, 40, .inl (upd (A 19) i.toNatClampNeg (xm_nar 0 x))))) else none) = _
  rw [if_pos ⟨rfl, h0, h1⟩]
  rfl
theorem ln_19 (hj : j < 40) : xm_ld xm_st (HP A L F) 0 19 (Int32.ofNat j) = some (A 19 j) := by
  have h := xs_tn (j := j) (by omega)
  rw [l_19 (xs_nn (by omega)) (by rw [h]; exact hj), h]
theorem sn_19 (hj : j < 40) : xm_sto (HP A L F) 0 19 (Int32.ofNat j) x = some (HP (va_up A 19 (upd (A 19) j x)) L F) := by
  have h := xs_tn (j := j) (by omega)
  rw [s_19 (xs_nn (by omega)) (by rw [h]; exact hj), h]
theorem l_20 (h0 : ¬ i < 0) (h1 : i.toNatClampNeg < 6) : xm_ld xm_st (HP A L F) 0 20 i = some (A 20 i.toNatClampNeg) := by
  show (if ¬ i < 0 ∧ i.toNatClampNeg < 6 then some (A 20 i.toNatClampNeg) else none) = _
  rw [if_pos ⟨h0, h1⟩]
theorem s_20 (h0 : ¬ i < 0) (h1 : i.toNatClampNeg < 6) : xm_sto (HP A L F) 0 20 i x = some (HP (va_up A 20 (upd (A 20) i.toNatClampNeg x)) L F) := by
  show (if 0 = 0 ∧ ¬ i < 0 ∧ i.toNatClampNeg < 6 then some ((HP A L F).set 20 (.inl (0, 6, .inl (upd (A 20) i.toNatClampNeg (xm_nar 0 x))))) else none) = _
  rw [if_pos ⟨rfl, h0, h1⟩]
  rfl
theorem ln_20 (hj : j < 6) : xm_ld xm_st (HP A L F) 0 20 (Int32.ofNat j) = some (A 20 j) := by
  have h := xs_tn (j := j) (by omega)
  rw [l_20 (xs_nn (by omega)) (by rw [h]; exact hj), h]
theorem sn_20 (hj : j < 6) : xm_sto (HP A L F) 0 20 (Int32.ofNat j) x = some (HP (va_up A 20 (upd (A 20) j x)) L F) := by
  have h := xs_tn (j := j) (by omega)
  rw [s_20 (xs_nn (by omega)) (by rw [h]; exact hj), h]
theorem p_21_1 : xm_put (HP A L F) 21 7 1 (.int v) = some (HP A L (va_up F 21 (va_up (F 21) 1 v))) := rfl
theorem l_22 (h0 : ¬ i < 0) (h1 : i.toNatClampNeg < 67) : xm_ld xm_st (HP A L F) 0 22 i = some (A 22 i.toNatClampNeg) := by
  show (if ¬ i < 0 ∧ i.toNatClampNeg < 67 then some (A 22 i.toNatClampNeg) else none) = _
  rw [if_pos ⟨h0, h1⟩]
theorem s_22 (h0 : ¬ i < 0) (h1 : i.toNatClampNeg < 67) : xm_sto (HP A L F) 0 22 i x = some (HP (va_up A 22 (upd (A 22) i.toNatClampNeg x)) L F) := by
  show (if 0 = 0 ∧ ¬ i < 0 ∧ i.toNatClampNeg < 67 then some ((HP A L F).set 22 (.inl (0, 67, .inl (upd (A 22) i.toNatClampNeg (xm_nar 0 x))))) else none) = _
  rw [if_pos ⟨rfl, h0, h1⟩]
  rfl
theorem ln_22 (hj : j < 67) : xm_ld xm_st (HP A L F) 0 22 (Int32.ofNat j) = some (A 22 j) := by
  have h := xs_tn (j := j) (by omega)
  rw [l_22 (xs_nn (by omega)) (by rw [h]; exact hj), h]
theorem sn_22 (hj : j < 67) : xm_sto (HP A L F) 0 22 (Int32.ofNat j) x = some (HP (va_up A 22 (upd (A 22) j x)) L F) := by
  have h := xs_tn (j := j) (by omega)
  rw [s_22 (xs_nn (by omega)) (by rw [h]; exact hj), h]
theorem l_23 (h0 : ¬ i < 0) (h1 : i.toNatClampNeg < 6) : xm_ld xm_st (HP A L F) 0 23 i = some (A 23 i.toNatClampNeg) := by
  show (if ¬ i < 0 ∧ i.toNatClampNeg < 6 then some (A 23 i.toNatClampNeg) else none) = _
  rw [if_pos ⟨h0, h1⟩]
theorem s_23 (h0 : ¬ i < 0) (h1 : i.toNatClampNeg < 6) : xm_sto (HP A L F) 0 23 i x = some (HP (va_up A 23 (upd (A 23) i.toNatClampNeg x)) L F) := by
  show (if 0 = 0 ∧ ¬ i < 0 ∧ i.toNatClampNeg < 6 then some ((HP A L F).set 23 (.inl (0, 6, .inl (upd (A 23) i.toNatClampNeg (xm_nar 0 x))))) else none) = _
  rw [if_pos ⟨rfl, h0, h1⟩]
  rfl
theorem ln_23 (hj : j < 6) : xm_ld xm_st (HP A L F) 0 23 (Int32.ofNat j) = some (A 23 j) := by
  have h := xs_tn (j := j) (by omega)
  rw [l_23 (xs_nn (by omega)) (by rw [h]; exact hj), h]
theorem sn_23 (hj : j < 6) : xm_sto (HP A L F) 0 23 (Int32.ofNat j) x = some (HP (va_up A 23 (upd (A 23) j x)) L F) := by
  have h := xs_tn (j := j) (by omega)
  rw [s_23 (xs_nn (by omega)) (by rw [h]; exact hj), h]
theorem l_24 (h0 : ¬ i < 0) (h1 : i.toNatClampNeg < 1024) : xm_ld xm_st (HP A L F) 0 24 i = some (A 24 i.toNatClampNeg) := by
  show (if ¬ i < 0 ∧ i.toNatClampNeg < 1024 then some (A 24 i.toNatClampNeg) else none) = _
  rw [if_pos ⟨h0, h1⟩]
theorem s_24 (h0 : ¬ i < 0) (h1 : i.toNatClampNeg < 1024) : xm_sto (HP A L F) 0 24 i x = some (HP (va_up A 24 (upd (A 24) i.toNatClampNeg x)) L F) := by
  show (if 0 = 0 ∧ ¬ i < 0 ∧ i.toNatClampNeg < 1024 then some ((HP A L F).set 24 (.inl (0, 1024, .inl (upd (A 24) i.toNatClampNeg (xm_nar 0 x))))) else none) = _
  rw [if_pos ⟨rfl, h0, h1⟩]
  rfl
theorem ln_24 (hj : j < 1024) : xm_ld xm_st (HP A L F) 0 24 (Int32.ofNat j) = some (A 24 j) := by
  have h := xs_tn (j := j) (by omega)
  rw [l_24 (xs_nn (by omega)) (by rw [h]; exact hj), h]
theorem sn_24 (hj : j < 1024) : xm_sto (HP A L F) 0 24 (Int32.ofNat j) x = some (HP (va_up A 24 (upd (A 24) j x)) L F) := by
  have h := xs_tn (j := j) (by omega)
  rw [s_24 (xs_nn (by omega)) (by rw [h]; exact hj), h]
theorem p_25_2 : xm_put (HP A L F) 25 0 2 (.int v) = some (HP A L (va_up F 25 (va_up (F 25) 2 v))) := rfl
theorem l_26 (h0 : ¬ i < 0) (h1 : i.toNatClampNeg < 20) : xm_ld xm_st (HP A L F) 0 26 i = some (A 26 i.toNatClampNeg) := by
  show (if ¬ i < 0 ∧ i.toNatClampNeg < 20 then some (A 26 i.toNatClampNeg) else none) = _
  rw [if_pos ⟨h0, h1⟩]
theorem s_26 (h0 : ¬ i < 0) (h1 : i.toNatClampNeg < 20) : xm_sto (HP A L F) 0 26 i x = some (HP (va_up A 26 (upd (A 26) i.toNatClampNeg x)) L F) := by
  show (if 0 = 0 ∧ ¬ i < 0 ∧ i.toNatClampNeg < 20 then some ((HP A L F).set 26 (.inl (0, 20, .inl (upd (A 26) i.toNatClampNeg (xm_nar 0 x))))) else none) = _
  rw [if_pos ⟨rfl, h0, h1⟩]
  rfl
theorem ln_26 (hj : j < 20) : xm_ld xm_st (HP A L F) 0 26 (Int32.ofNat j) = some (A 26 j) := by
  have h := xs_tn (j := j) (by omega)
  rw [l_26 (xs_nn (by omega)) (by rw [h]; exact hj), h]
theorem sn_26 (hj : j < 20) : xm_sto (HP A L F) 0 26 (Int32.ofNat j) x = some (HP (va_up A 26 (upd (A 26) j x)) L F) := by
  have h := xs_tn (j := j) (by omega)
  rw [s_26 (xs_nn (by omega)) (by rw [h]; exact hj), h]
theorem l_27 (h0 : ¬ i < 0) (h1 : i.toNatClampNeg < 20) : xm_ld xm_st (HP A L F) 0 27 i = some (A 27 i.toNatClampNeg) := by
  show (if ¬ i < 0 ∧ i.toNatClampNeg < 20 then some (A 27 i.toNatClampNeg) else none) = _
  rw [if_pos ⟨h0, h1⟩]
theorem s_27 (h0 : ¬ i < 0) (h1 : i.toNatClampNeg < 20) : xm_sto (HP A L F) 0 27 i x = some (HP (va_up A 27 (upd (A 27) i.toNatClampNeg x)) L F) := by
  show (if 0 = 0 ∧ ¬ i < 0 ∧ i.toNatClampNeg < 20 then some ((HP A L F).set 27 (.inl (0, 20, .inl (upd (A 27) i.toNatClampNeg (xm_nar 0 x))))) else none) = _
  rw [if_pos ⟨rfl, h0, h1⟩]
  rfl
theorem ln_27 (hj : j < 20) : xm_ld xm_st (HP A L F) 0 27 (Int32.ofNat j) = some (A 27 j) := by
  have h := xs_tn (j := j) (by omega)
  rw [l_27 (xs_nn (by omega)) (by rw [h]; exact hj), h]
theorem sn_27 (hj : j < 20) : xm_sto (HP A L F) 0 27 (Int32.ofNat j) x = some (HP (va_up A 27 (upd (A 27) j x)) L F) := by
  have h := xs_tn (j := j) (by omega)
  rw [s_27 (xs_nn (by omega)) (by rw [h]; exact hj), h]
theorem p_28_1 : xm_put (HP A L F) 28 1 1 (.int v) = some (HP A L (va_up F 28 (va_up (F 28) 1 v))) := rfl
theorem p_28_3 : xm_put (HP A L F) 28 1 3 (.int v) = some (HP A L (va_up F 28 (va_up (F 28) 3 v))) := rfl
theorem p_28_4 : xm_put (HP A L F) 28 1 4 (.int v) = some (HP A L (va_up F 28 (va_up (F 28) 4 v))) := rfl
theorem l_29 (h0 : ¬ i < 0) (h1 : i.toNatClampNeg < 50) : xm_ld xm_st (HP A L F) 0 29 i = some (A 29 i.toNatClampNeg) := by
  show (if ¬ i < 0 ∧ i.toNatClampNeg < 50 then some (A 29 i.toNatClampNeg) else none) = _
  rw [if_pos ⟨h0, h1⟩]
theorem s_29 (h0 : ¬ i < 0) (h1 : i.toNatClampNeg < 50) : xm_sto (HP A L F) 0 29 i x = some (HP (va_up A 29 (upd (A 29) i.toNatClampNeg x)) L F) := by
  show (if 0 = 0 ∧ ¬ i < 0 ∧ i.toNatClampNeg < 50 then some ((HP A L F).set 29 (.inl (0, 50, .inl (upd (A 29) i.toNatClampNeg (xm_nar 0 x))))) else none) = _
  rw [if_pos ⟨rfl, h0, h1⟩]
  rfl
theorem ln_29 (hj : j < 50) : xm_ld xm_st (HP A L F) 0 29 (Int32.ofNat j) = some (A 29 j) := by
  have h := xs_tn (j := j) (by omega)
  rw [l_29 (xs_nn (by omega)) (by rw [h]; exact hj), h]
theorem sn_29 (hj : j < 50) : xm_sto (HP A L F) 0 29 (Int32.ofNat j) x = some (HP (va_up A 29 (upd (A 29) j x)) L F) := by
  have h := xs_tn (j := j) (by omega)
  rw [s_29 (xs_nn (by omega)) (by rw [h]; exact hj), h]
theorem l_30 (h0 : ¬ i < 0) (h1 : i.toNatClampNeg < 24) : xm_ld xm_st (HP A L F) 0 30 i = some (A 30 i.toNatClampNeg) := by
  show (if ¬ i < 0 ∧ i.toNatClampNeg < 24 then some (A 30 i.toNatClampNeg) else none) = _
  rw [if_pos ⟨h0, h1⟩]
theorem s_30 (h0 : ¬ i < 0) (h1 : i.toNatClampNeg < 24) : xm_sto (HP A L F) 0 30 i x = some (HP (va_up A 30 (upd (A 30) i.toNatClampNeg x)) L F) := by
  show (if 0 = 0 ∧ ¬ i < 0 ∧ i.toNatClampNeg < 24 then some ((HP A L F).set 30 (.inl (0, 24, .inl (upd (A 30) i.toNatClampNeg (xm_nar 0 x))))) else none) = _
  rw [if_pos ⟨rfl, h0, h1⟩]
  rfl
theorem ln_30 (hj : j < 24) : xm_ld xm_st (HP A L F) 0 30 (Int32.ofNat j) = some (A 30 j) := by
  have h := xs_tn (j := j) (by omega)
  rw [l_30 (xs_nn (by omega)) (by rw [h]; exact hj), h]
theorem sn_30 (hj : j < 24) : xm_sto (HP A L F) 0 30 (Int32.ofNat j) x = some (HP (va_up A 30 (upd (A 30) j x)) L F) := by
  have h := xs_tn (j := j) (by omega)
  rw [s_30 (xs_nn (by omega)) (by rw [h]; exact hj), h]
theorem p_32_0 : xm_put (HP A L F) 32 5 0 (.int v) = some (HP A L (va_up F 32 (va_up (F 32) 0 v))) := rfl
theorem p_32_1 : xm_put (HP A L F) 32 5 1 (.int v) = some (HP A L (va_up F 32 (va_up (F 32) 1 v))) := rfl
theorem p_32_2 : xm_put (HP A L F) 32 5 2 (.int v) = some (HP A L (va_up F 32 (va_up (F 32) 2 v))) := rfl
theorem l_33 (h0 : ¬ i < 0) (h1 : i.toNatClampNeg < 60) : xm_ldL (HP A L F) 33 i = some (L 33 i.toNatClampNeg) := by
  show (if ¬ i < 0 ∧ i.toNatClampNeg < 60 then some (L 33 i.toNatClampNeg) else none) = _
  rw [if_pos ⟨h0, h1⟩]
theorem s_33 (h0 : ¬ i < 0) (h1 : i.toNatClampNeg < 60) : xm_stoL (HP A L F) 33 i y = some (HP A (va_up L 33 (vp_updL (L 33) i.toNatClampNeg y)) F) := by
  show (if ¬ i < 0 ∧ i.toNatClampNeg < 60 then some ((HP A L F).set 33 (.inl (3, 60, .inr (.inl (vp_updL (L 33) i.toNatClampNeg y))))) else none) = _
  rw [if_pos ⟨h0, h1⟩]
  rfl
theorem ln_33 (hj : j < 60) : xm_ldL (HP A L F) 33 (Int32.ofNat j) = some (L 33 j) := by
  have h := xs_tn (j := j) (by omega)
  rw [l_33 (xs_nn (by omega)) (by rw [h]; exact hj), h]
theorem sn_33 (hj : j < 60) : xm_stoL (HP A L F) 33 (Int32.ofNat j) y = some (HP A (va_up L 33 (vp_updL (L 33) j y)) F) := by
  have h := xs_tn (j := j) (by omega)
  rw [s_33 (xs_nn (by omega)) (by rw [h]; exact hj), h]
theorem p_34_0 : xm_put (HP A L F) 34 5 0 (.int v) = some (HP A L (va_up F 34 (va_up (F 34) 0 v))) := rfl
theorem p_34_1 : xm_put (HP A L F) 34 5 1 (.int v) = some (HP A L (va_up F 34 (va_up (F 34) 1 v))) := rfl
theorem p_34_2 : xm_put (HP A L F) 34 5 2 (.int v) = some (HP A L (va_up F 34 (va_up (F 34) 2 v))) := rfl
theorem l_35 (h0 : ¬ i < 0) (h1 : i.toNatClampNeg < 60) : xm_ldL (HP A L F) 35 i = some (L 35 i.toNatClampNeg) := by
  show (if ¬ i < 0 ∧ i.toNatClampNeg < 60 then some (L 35 i.toNatClampNeg) else none) = _
  rw [if_pos ⟨h0, h1⟩]
theorem s_35 (h0 : ¬ i < 0) (h1 : i.toNatClampNeg < 60) : xm_stoL (HP A L F) 35 i y = some (HP A (va_up L 35 (vp_updL (L 35) i.toNatClampNeg y)) F) := by
  show (if ¬ i < 0 ∧ i.toNatClampNeg < 60 then some ((HP A L F).set 35 (.inl (3, 60, .inr (.inl (vp_updL (L 35) i.toNatClampNeg y))))) else none) = _
  rw [if_pos ⟨h0, h1⟩]
  rfl
theorem ln_35 (hj : j < 60) : xm_ldL (HP A L F) 35 (Int32.ofNat j) = some (L 35 j) := by
  have h := xs_tn (j := j) (by omega)
  rw [l_35 (xs_nn (by omega)) (by rw [h]; exact hj), h]
theorem sn_35 (hj : j < 60) : xm_stoL (HP A L F) 35 (Int32.ofNat j) y = some (HP A (va_up L 35 (vp_updL (L 35) j y)) F) := by
  have h := xs_tn (j := j) (by omega)
  rw [s_35 (xs_nn (by omega)) (by rw [h]; exact hj), h]
theorem p_36_0 : xm_put (HP A L F) 36 5 0 (.int v) = some (HP A L (va_up F 36 (va_up (F 36) 0 v))) := rfl
theorem p_36_1 : xm_put (HP A L F) 36 5 1 (.int v) = some (HP A L (va_up F 36 (va_up (F 36) 1 v))) := rfl
theorem p_36_2 : xm_put (HP A L F) 36 5 2 (.int v) = some (HP A L (va_up F 36 (va_up (F 36) 2 v))) := rfl
theorem l_37 (h0 : ¬ i < 0) (h1 : i.toNatClampNeg < 60) : xm_ldL (HP A L F) 37 i = some (L 37 i.toNatClampNeg) := by
  show (if ¬ i < 0 ∧ i.toNatClampNeg < 60 then some (L 37 i.toNatClampNeg) else none) = _
  rw [if_pos ⟨h0, h1⟩]
theorem s_37 (h0 : ¬ i < 0) (h1 : i.toNatClampNeg < 60) : xm_stoL (HP A L F) 37 i y = some (HP A (va_up L 37 (vp_updL (L 37) i.toNatClampNeg y)) F) := by
  show (if ¬ i < 0 ∧ i.toNatClampNeg < 60 then some ((HP A L F).set 37 (.inl (3, 60, .inr (.inl (vp_updL (L 37) i.toNatClampNeg y))))) else none) = _
  rw [if_pos ⟨h0, h1⟩]
  rfl
theorem ln_37 (hj : j < 60) : xm_ldL (HP A L F) 37 (Int32.ofNat j) = some (L 37 j) := by
  have h := xs_tn (j := j) (by omega)
  rw [l_37 (xs_nn (by omega)) (by rw [h]; exact hj), h]
theorem sn_37 (hj : j < 60) : xm_stoL (HP A L F) 37 (Int32.ofNat j) y = some (HP A (va_up L 37 (vp_updL (L 37) j y)) F) := by
  have h := xs_tn (j := j) (by omega)
  rw [s_37 (xs_nn (by omega)) (by rw [h]; exact hj), h]
theorem p_38_0 : xm_put (HP A L F) 38 5 0 (.int v) = some (HP A L (va_up F 38 (va_up (F 38) 0 v))) := rfl
theorem p_38_1 : xm_put (HP A L F) 38 5 1 (.int v) = some (HP A L (va_up F 38 (va_up (F 38) 1 v))) := rfl
theorem p_38_2 : xm_put (HP A L F) 38 5 2 (.int v) = some (HP A L (va_up F 38 (va_up (F 38) 2 v))) := rfl
theorem l_39 (h0 : ¬ i < 0) (h1 : i.toNatClampNeg < 60) : xm_ldL (HP A L F) 39 i = some (L 39 i.toNatClampNeg) := by
  show (if ¬ i < 0 ∧ i.toNatClampNeg < 60 then some (L 39 i.toNatClampNeg) else none) = _
  rw [if_pos ⟨h0, h1⟩]
theorem s_39 (h0 : ¬ i < 0) (h1 : i.toNatClampNeg < 60) : xm_stoL (HP A L F) 39 i y = some (HP A (va_up L 39 (vp_updL (L 39) i.toNatClampNeg y)) F) := by
  show (if ¬ i < 0 ∧ i.toNatClampNeg < 60 then some ((HP A L F).set 39 (.inl (3, 60, .inr (.inl (vp_updL (L 39) i.toNatClampNeg y))))) else none) = _
  rw [if_pos ⟨h0, h1⟩]
  rfl
theorem ln_39 (hj : j < 60) : xm_ldL (HP A L F) 39 (Int32.ofNat j) = some (L 39 j) := by
  have h := xs_tn (j := j) (by omega)
  rw [l_39 (xs_nn (by omega)) (by rw [h]; exact hj), h]
theorem sn_39 (hj : j < 60) : xm_stoL (HP A L F) 39 (Int32.ofNat j) y = some (HP A (va_up L 39 (vp_updL (L 39) j y)) F) := by
  have h := xs_tn (j := j) (by omega)
  rw [s_39 (xs_nn (by omega)) (by rw [h]; exact hj), h]
theorem p_40_0 : xm_put (HP A L F) 40 5 0 (.int v) = some (HP A L (va_up F 40 (va_up (F 40) 0 v))) := rfl
theorem p_40_1 : xm_put (HP A L F) 40 5 1 (.int v) = some (HP A L (va_up F 40 (va_up (F 40) 1 v))) := rfl
theorem p_40_2 : xm_put (HP A L F) 40 5 2 (.int v) = some (HP A L (va_up F 40 (va_up (F 40) 2 v))) := rfl
theorem l_41 (h0 : ¬ i < 0) (h1 : i.toNatClampNeg < 60) : xm_ldL (HP A L F) 41 i = some (L 41 i.toNatClampNeg) := by
  show (if ¬ i < 0 ∧ i.toNatClampNeg < 60 then some (L 41 i.toNatClampNeg) else none) = _
  rw [if_pos ⟨h0, h1⟩]
theorem s_41 (h0 : ¬ i < 0) (h1 : i.toNatClampNeg < 60) : xm_stoL (HP A L F) 41 i y = some (HP A (va_up L 41 (vp_updL (L 41) i.toNatClampNeg y)) F) := by
  show (if ¬ i < 0 ∧ i.toNatClampNeg < 60 then some ((HP A L F).set 41 (.inl (3, 60, .inr (.inl (vp_updL (L 41) i.toNatClampNeg y))))) else none) = _
  rw [if_pos ⟨h0, h1⟩]
  rfl
theorem ln_41 (hj : j < 60) : xm_ldL (HP A L F) 41 (Int32.ofNat j) = some (L 41 j) := by
  have h := xs_tn (j := j) (by omega)
  rw [l_41 (xs_nn (by omega)) (by rw [h]; exact hj), h]
theorem sn_41 (hj : j < 60) : xm_stoL (HP A L F) 41 (Int32.ofNat j) y = some (HP A (va_up L 41 (vp_updL (L 41) j y)) F) := by
  have h := xs_tn (j := j) (by omega)
  rw [s_41 (xs_nn (by omega)) (by rw [h]; exact hj), h]
theorem p_42_0 : xm_put (HP A L F) 42 5 0 (.int v) = some (HP A L (va_up F 42 (va_up (F 42) 0 v))) := rfl
theorem p_42_1 : xm_put (HP A L F) 42 5 1 (.int v) = some (HP A L (va_up F 42 (va_up (F 42) 1 v))) := rfl
theorem p_42_2 : xm_put (HP A L F) 42 5 2 (.int v) = some (HP A L (va_up F 42 (va_up (F 42) 2 v))) := rfl
theorem l_43 (h0 : ¬ i < 0) (h1 : i.toNatClampNeg < 60) : xm_ldL (HP A L F) 43 i = some (L 43 i.toNatClampNeg) := by
  show (if ¬ i < 0 ∧ i.toNatClampNeg < 60 then some (L 43 i.toNatClampNeg) else none) = _
  rw [if_pos ⟨h0, h1⟩]
theorem s_43 (h0 : ¬ i < 0) (h1 : i.toNatClampNeg < 60) : xm_stoL (HP A L F) 43 i y = some (HP A (va_up L 43 (vp_updL (L 43) i.toNatClampNeg y)) F) := by
  show (if ¬ i < 0 ∧ i.toNatClampNeg < 60 then some ((HP A L F).set 43 (.inl (3, 60, .inr (.inl (vp_updL (L 43) i.toNatClampNeg y))))) else none) = _
  rw [if_pos ⟨h0, h1⟩]
  rfl
theorem ln_43 (hj : j < 60) : xm_ldL (HP A L F) 43 (Int32.ofNat j) = some (L 43 j) := by
  have h := xs_tn (j := j) (by omega)
  rw [l_43 (xs_nn (by omega)) (by rw [h]; exact hj), h]
theorem sn_43 (hj : j < 60) : xm_stoL (HP A L F) 43 (Int32.ofNat j) y = some (HP A (va_up L 43 (vp_updL (L 43) j y)) F) := by
  have h := xs_tn (j := j) (by omega)
  rw [s_43 (xs_nn (by omega)) (by rw [h]; exact hj), h]
theorem p_44_0 : xm_put (HP A L F) 44 9 0 (.int v) = some (HP A L (va_up F 44 (va_up (F 44) 0 v))) := rfl
theorem p_44_1 : xm_put (HP A L F) 44 9 1 (.int v) = some (HP A L (va_up F 44 (va_up (F 44) 1 v))) := rfl
theorem p_44_11 : xm_put (HP A L F) 44 9 11 (.int v) = some (HP A L (va_up F 44 (va_up (F 44) 11 v))) := rfl
theorem p_44_12 : xm_put (HP A L F) 44 9 12 (.int v) = some (HP A L (va_up F 44 (va_up (F 44) 12 v))) := rfl
theorem p_44_18 : xm_put (HP A L F) 44 9 18 (.int v) = some (HP A L (va_up F 44 (va_up (F 44) 18 v))) := rfl
theorem p_44_19 : xm_put (HP A L F) 44 9 19 (.int v) = some (HP A L (va_up F 44 (va_up (F 44) 19 v))) := rfl
theorem p_44_20 : xm_put (HP A L F) 44 9 20 (.int v) = some (HP A L (va_up F 44 (va_up (F 44) 20 v))) := rfl
theorem p_44_21 : xm_put (HP A L F) 44 9 21 (.int v) = some (HP A L (va_up F 44 (va_up (F 44) 21 v))) := rfl
theorem p_44_22 : xm_put (HP A L F) 44 9 22 (.int v) = some (HP A L (va_up F 44 (va_up (F 44) 22 v))) := rfl
theorem p_44_30 : xm_put (HP A L F) 44 9 30 (.int v) = some (HP A L (va_up F 44 (va_up (F 44) 30 v))) := rfl
theorem p_44_36 : xm_put (HP A L F) 44 9 36 (.int v) = some (HP A L (va_up F 44 (va_up (F 44) 36 v))) := rfl
theorem p_44_37 : xm_put (HP A L F) 44 9 37 (.int v) = some (HP A L (va_up F 44 (va_up (F 44) 37 v))) := rfl
theorem p_44_38 : xm_put (HP A L F) 44 9 38 (.int v) = some (HP A L (va_up F 44 (va_up (F 44) 38 v))) := rfl
theorem p_44_39 : xm_put (HP A L F) 44 9 39 (.int v) = some (HP A L (va_up F 44 (va_up (F 44) 39 v))) := rfl
theorem p_44_41 : xm_put (HP A L F) 44 9 41 (.int v) = some (HP A L (va_up F 44 (va_up (F 44) 41 v))) := rfl
theorem p_44_42 : xm_put (HP A L F) 44 9 42 (.int v) = some (HP A L (va_up F 44 (va_up (F 44) 42 v))) := rfl
theorem p_44_43 : xm_put (HP A L F) 44 9 43 (.int v) = some (HP A L (va_up F 44 (va_up (F 44) 43 v))) := rfl
theorem p_44_45 : xm_put (HP A L F) 44 9 45 (.int v) = some (HP A L (va_up F 44 (va_up (F 44) 45 v))) := rfl
theorem p_44_46 : xm_put (HP A L F) 44 9 46 (.int v) = some (HP A L (va_up F 44 (va_up (F 44) 46 v))) := rfl
theorem p_44_47 : xm_put (HP A L F) 44 9 47 (.int v) = some (HP A L (va_up F 44 (va_up (F 44) 47 v))) := rfl
theorem p_44_50 : xm_put (HP A L F) 44 9 50 (.int v) = some (HP A L (va_up F 44 (va_up (F 44) 50 v))) := rfl
theorem p_44_52 : xm_put (HP A L F) 44 9 52 (.int v) = some (HP A L (va_up F 44 (va_up (F 44) 52 v))) := rfl
theorem l_45 (h0 : ¬ i < 0) (h1 : i.toNatClampNeg < 8) : xm_ld xm_st (HP A L F) 0 45 i = some (A 45 i.toNatClampNeg) := by
  show (if ¬ i < 0 ∧ i.toNatClampNeg < 8 then some (A 45 i.toNatClampNeg) else none) = _
  rw [if_pos ⟨h0, h1⟩]
theorem s_45 (h0 : ¬ i < 0) (h1 : i.toNatClampNeg < 8) : xm_sto (HP A L F) 0 45 i x = some (HP (va_up A 45 (upd (A 45) i.toNatClampNeg x)) L F) := by
  show (if 0 = 0 ∧ ¬ i < 0 ∧ i.toNatClampNeg < 8 then some ((HP A L F).set 45 (.inl (0, 8, .inl (upd (A 45) i.toNatClampNeg (xm_nar 0 x))))) else none) = _
  rw [if_pos ⟨rfl, h0, h1⟩]
  rfl
theorem ln_45 (hj : j < 8) : xm_ld xm_st (HP A L F) 0 45 (Int32.ofNat j) = some (A 45 j) := by
  have h := xs_tn (j := j) (by omega)
  rw [l_45 (xs_nn (by omega)) (by rw [h]; exact hj), h]
theorem sn_45 (hj : j < 8) : xm_sto (HP A L F) 0 45 (Int32.ofNat j) x = some (HP (va_up A 45 (upd (A 45) j x)) L F) := by
  have h := xs_tn (j := j) (by omega)
  rw [s_45 (xs_nn (by omega)) (by rw [h]; exact hj), h]
theorem l_46 (h0 : ¬ i < 0) (h1 : i.toNatClampNeg < 8) : xm_ld xm_st (HP A L F) 0 46 i = some (A 46 i.toNatClampNeg) := by
  show (if ¬ i < 0 ∧ i.toNatClampNeg < 8 then some (A 46 i.toNatClampNeg) else none) = _
  rw [if_pos ⟨h0, h1⟩]
theorem s_46 (h0 : ¬ i < 0) (h1 : i.toNatClampNeg < 8) : xm_sto (HP A L F) 0 46 i x = some (HP (va_up A 46 (upd (A 46) i.toNatClampNeg x)) L F) := by
  show (if 0 = 0 ∧ ¬ i < 0 ∧ i.toNatClampNeg < 8 then some ((HP A L F).set 46 (.inl (0, 8, .inl (upd (A 46) i.toNatClampNeg (xm_nar 0 x))))) else none) = _
  rw [if_pos ⟨rfl, h0, h1⟩]
  rfl
theorem ln_46 (hj : j < 8) : xm_ld xm_st (HP A L F) 0 46 (Int32.ofNat j) = some (A 46 j) := by
  have h := xs_tn (j := j) (by omega)
  rw [l_46 (xs_nn (by omega)) (by rw [h]; exact hj), h]
theorem sn_46 (hj : j < 8) : xm_sto (HP A L F) 0 46 (Int32.ofNat j) x = some (HP (va_up A 46 (upd (A 46) j x)) L F) := by
  have h := xs_tn (j := j) (by omega)
  rw [s_46 (xs_nn (by omega)) (by rw [h]; exact hj), h]
theorem l_47 (h0 : ¬ i < 0) (h1 : i.toNatClampNeg < 8) : xm_ld xm_st (HP A L F) 0 47 i = some (A 47 i.toNatClampNeg) := by
  show (if ¬ i < 0 ∧ i.toNatClampNeg < 8 then some (A 47 i.toNatClampNeg) else none) = _
  rw [if_pos ⟨h0, h1⟩]
theorem s_47 (h0 : ¬ i < 0) (h1 : i.toNatClampNeg < 8) : xm_sto (HP A L F) 0 47 i x = some (HP (va_up A 47 (upd (A 47) i.toNatClampNeg x)) L F) := by
  show (if 0 = 0 ∧ ¬ i < 0 ∧ i.toNatClampNeg < 8 then some ((HP A L F).set 47 (.inl (0, 8, .inl (upd (A 47) i.toNatClampNeg (xm_nar 0 x))))) else none) = _
  rw [if_pos ⟨rfl, h0, h1⟩]
  rfl
theorem ln_47 (hj : j < 8) : xm_ld xm_st (HP A L F) 0 47 (Int32.ofNat j) = some (A 47 j) := by
  have h := xs_tn (j := j) (by omega)
  rw [l_47 (xs_nn (by omega)) (by rw [h]; exact hj), h]
theorem sn_47 (hj : j < 8) : xm_sto (HP A L F) 0 47 (Int32.ofNat j) x = some (HP (va_up A 47 (upd (A 47) j x)) L F) := by
  have h := xs_tn (j := j) (by omega)
  rw [s_47 (xs_nn (by omega)) (by rw [h]; exact hj), h]
theorem l_48 (h0 : ¬ i < 0) (h1 : i.toNatClampNeg < 8) : xm_ld xm_st (HP A L F) 0 48 i = some (A 48 i.toNatClampNeg) := by
  show (if ¬ i < 0 ∧ i.toNatClampNeg < 8 then some (A 48 i.toNatClampNeg) else none) = _
  rw [if_pos ⟨h0, h1⟩]
theorem s_48 (h0 : ¬ i < 0) (h1 : i.toNatClampNeg < 8) : xm_sto (HP A L F) 0 48 i x = some (HP (va_up A 48 (upd (A 48) i.toNatClampNeg x)) L F) := by
  show (if 0 = 0 ∧ ¬ i < 0 ∧ i.toNatClampNeg < 8 then some ((HP A L F).set 48 (.inl (0, 8, .inl (upd (A 48) i.toNatClampNeg (xm_nar 0 x))))) else none) = _
  rw [if_pos ⟨rfl, h0, h1⟩]
  rfl
theorem ln_48 (hj : j < 8) : xm_ld xm_st (HP A L F) 0 48 (Int32.ofNat j) = some (A 48 j) := by
  have h := xs_tn (j := j) (by omega)
  rw [l_48 (xs_nn (by omega)) (by rw [h]; exact hj), h]
theorem sn_48 (hj : j < 8) : xm_sto (HP A L F) 0 48 (Int32.ofNat j) x = some (HP (va_up A 48 (upd (A 48) j x)) L F) := by
  have h := xs_tn (j := j) (by omega)
  rw [s_48 (xs_nn (by omega)) (by rw [h]; exact hj), h]
theorem l_49 (h0 : ¬ i < 0) (h1 : i.toNatClampNeg < 8) : xm_ld xm_st (HP A L F) 0 49 i = some (A 49 i.toNatClampNeg) := by
  show (if ¬ i < 0 ∧ i.toNatClampNeg < 8 then some (A 49 i.toNatClampNeg) else none) = _
  rw [if_pos ⟨h0, h1⟩]
theorem s_49 (h0 : ¬ i < 0) (h1 : i.toNatClampNeg < 8) : xm_sto (HP A L F) 0 49 i x = some (HP (va_up A 49 (upd (A 49) i.toNatClampNeg x)) L F) := by
  show (if 0 = 0 ∧ ¬ i < 0 ∧ i.toNatClampNeg < 8 then some ((HP A L F).set 49 (.inl (0, 8, .inl (upd (A 49) i.toNatClampNeg (xm_nar 0 x))))) else none) = _
  rw [if_pos ⟨rfl, h0, h1⟩]
  rfl
theorem ln_49 (hj : j < 8) : xm_ld xm_st (HP A L F) 0 49 (Int32.ofNat j) = some (A 49 j) := by
  have h := xs_tn (j := j) (by omega)
  rw [l_49 (xs_nn (by omega)) (by rw [h]; exact hj), h]
theorem sn_49 (hj : j < 8) : xm_sto (HP A L F) 0 49 (Int32.ofNat j) x = some (HP (va_up A 49 (upd (A 49) j x)) L F) := by
  have h := xs_tn (j := j) (by omega)
  rw [s_49 (xs_nn (by omega)) (by rw [h]; exact hj), h]
theorem l_50 (h0 : ¬ i < 0) (h1 : i.toNatClampNeg < 8) : xm_ld xm_st (HP A L F) 0 50 i = some (A 50 i.toNatClampNeg) := by
  show (if ¬ i < 0 ∧ i.toNatClampNeg < 8 then some (A 50 i.toNatClampNeg) else none) = _
  rw [if_pos ⟨h0, h1⟩]
theorem s_50 (h0 : ¬ i < 0) (h1 : i.toNatClampNeg < 8) : xm_sto (HP A L F) 0 50 i x = some (HP (va_up A 50 (upd (A 50) i.toNatClampNeg x)) L F) := by
  show (if 0 = 0 ∧ ¬ i < 0 ∧ i.toNatClampNeg < 8 then some ((HP A L F).set 50 (.inl (0, 8, .inl (upd (A 50) i.toNatClampNeg (xm_nar 0 x))))) else none) = _
  rw [if_pos ⟨rfl, h0, h1⟩]
  rfl
theorem ln_50 (hj : j < 8) : xm_ld xm_st (HP A L F) 0 50 (Int32.ofNat j) = some (A 50 j) := by
  have h := xs_tn (j := j) (by omega)
  rw [l_50 (xs_nn (by omega)) (by rw [h]; exact hj), h]
theorem sn_50 (hj : j < 8) : xm_sto (HP A L F) 0 50 (Int32.ofNat j) x = some (HP (va_up A 50 (upd (A 50) j x)) L F) := by
  have h := xs_tn (j := j) (by omega)
  rw [s_50 (xs_nn (by omega)) (by rw [h]; exact hj), h]
theorem l_51 (h0 : ¬ i < 0) (h1 : i.toNatClampNeg < 8) : xm_ld xm_st (HP A L F) 0 51 i = some (A 51 i.toNatClampNeg) := by
  show (if ¬ i < 0 ∧ i.toNatClampNeg < 8 then some (A 51 i.toNatClampNeg) else none) = _
  rw [if_pos ⟨h0, h1⟩]
theorem s_51 (h0 : ¬ i < 0) (h1 : i.toNatClampNeg < 8) : xm_sto (HP A L F) 0 51 i x = some (HP (va_up A 51 (upd (A 51) i.toNatClampNeg x)) L F) := by
  show (if 0 = 0 ∧ ¬ i < 0 ∧ i.toNatClampNeg < 8 then some ((HP A L F).set 51 (.inl (0, 8, .inl (upd (A 51) i.toNatClampNeg (xm_nar 0 x))))) else none) = _
  rw [if_pos ⟨rfl, h0, h1⟩]
  rfl
theorem ln_51 (hj : j < 8) : xm_ld xm_st (HP A L F) 0 51 (Int32.ofNat j) = some (A 51 j) := by
  have h := xs_tn (j := j) (by omega)
  rw [l_51 (xs_nn (by omega)) (by rw [h]; exact hj), h]
theorem sn_51 (hj : j < 8) : xm_sto (HP A L F) 0 51 (Int32.ofNat j) x = some (HP (va_up A 51 (upd (A 51) j x)) L F) := by
  have h := xs_tn (j := j) (by omega)
  rw [s_51 (xs_nn (by omega)) (by rw [h]; exact hj), h]
theorem l_52 (h0 : ¬ i < 0) (h1 : i.toNatClampNeg < 8) : xm_ld xm_st (HP A L F) 0 52 i = some (A 52 i.toNatClampNeg) := by
  show (if ¬ i < 0 ∧ i.toNatClampNeg < 8 then some (A 52 i.toNatClampNeg) else none) = _
  rw [if_pos ⟨h0, h1⟩]
theorem s_52 (h0 : ¬ i < 0) (h1 : i.toNatClampNeg < 8) : xm_sto (HP A L F) 0 52 i x = some (HP (va_up A 52 (upd (A 52) i.toNatClampNeg x)) L F) := by
  show (if 0 = 0 ∧ ¬ i < 0 ∧ i.toNatClampNeg < 8 then some ((HP A L F).set 52 (.inl (0, 8, .inl (upd (A 52) i.toNatClampNeg (xm_nar 0 x))))) else none) = _
  rw [if_pos ⟨rfl, h0, h1⟩]
  rfl
theorem ln_52 (hj : j < 8) : xm_ld xm_st (HP A L F) 0 52 (Int32.ofNat j) = some (A 52 j) := by
  have h := xs_tn (j := j) (by omega)
  rw [l_52 (xs_nn (by omega)) (by rw [h]; exact hj), h]
theorem sn_52 (hj : j < 8) : xm_sto (HP A L F) 0 52 (Int32.ofNat j) x = some (HP (va_up A 52 (upd (A 52) j x)) L F) := by
  have h := xs_tn (j := j) (by omega)
  rw [s_52 (xs_nn (by omega)) (by rw [h]; exact hj), h]
theorem l_53 (h0 : ¬ i < 0) (h1 : i.toNatClampNeg < 3) : xm_ld xm_st (HP A L F) 0 53 i = some (A 53 i.toNatClampNeg) := by
  show (if ¬ i < 0 ∧ i.toNatClampNeg < 3 then some (A 53 i.toNatClampNeg) else none) = _
  rw [if_pos ⟨h0, h1⟩]
theorem s_53 (h0 : ¬ i < 0) (h1 : i.toNatClampNeg < 3) : xm_sto (HP A L F) 0 53 i x = some (HP (va_up A 53 (upd (A 53) i.toNatClampNeg x)) L F) := by
  show (if 0 = 0 ∧ ¬ i < 0 ∧ i.toNatClampNeg < 3 then some ((HP A L F).set 53 (.inl (0, 3, .inl (upd (A 53) i.toNatClampNeg (xm_nar 0 x))))) else none) = _
  rw [if_pos ⟨rfl, h0, h1⟩]
  rfl
theorem ln_53 (hj : j < 3) : xm_ld xm_st (HP A L F) 0 53 (Int32.ofNat j) = some (A 53 j) := by
  have h := xs_tn (j := j) (by omega)
  rw [l_53 (xs_nn (by omega)) (by rw [h]; exact hj), h]
theorem sn_53 (hj : j < 3) : xm_sto (HP A L F) 0 53 (Int32.ofNat j) x = some (HP (va_up A 53 (upd (A 53) j x)) L F) := by
  have h := xs_tn (j := j) (by omega)
  rw [s_53 (xs_nn (by omega)) (by rw [h]; exact hj), h]
theorem l_54 (h0 : ¬ i < 0) (h1 : i.toNatClampNeg < 40) : xm_ld xm_st (HP A L F) 0 54 i = some (A 54 i.toNatClampNeg) := by
  show (if ¬ i < 0 ∧ i.toNatClampNeg < 40 then some (A 54 i.toNatClampNeg) else none) = _
  rw [if_pos ⟨h0, h1⟩]
theorem s_54 (h0 : ¬ i < 0) (h1 : i.toNatClampNeg < 40) : xm_sto (HP A L F) 0 54 i x = some (HP (va_up A 54 (upd (A 54) i.toNatClampNeg x)) L F) := by
  show (if 0 = 0 ∧ ¬ i < 0 ∧ i.toNatClampNeg < 40 then some ((HP A L F).set 54 (.inl (0, 40, .inl (upd (A 54) i.toNatClampNeg (xm_nar 0 x))))) else none) = _
  rw [if_pos ⟨rfl, h0, h1⟩]
  rfl
theorem ln_54 (hj : j < 40) : xm_ld xm_st (HP A L F) 0 54 (Int32.ofNat j) = some (A 54 j) := by
  have h := xs_tn (j := j) (by omega)
  rw [l_54 (xs_nn (by omega)) (by rw [h]; exact hj), h]
theorem sn_54 (hj : j < 40) : xm_sto (HP A L F) 0 54 (Int32.ofNat j) x = some (HP (va_up A 54 (upd (A 54) j x)) L F) := by
  have h := xs_tn (j := j) (by omega)
  rw [s_54 (xs_nn (by omega)) (by rw [h]; exact hj), h]
theorem l_55 (h0 : ¬ i < 0) (h1 : i.toNatClampNeg < 40) : xm_ld xm_st (HP A L F) 0 55 i = some (A 55 i.toNatClampNeg) := by
  show (if ¬ i < 0 ∧ i.toNatClampNeg < 40 then some (A 55 i.toNatClampNeg) else none) = _
  rw [if_pos ⟨h0, h1⟩]
theorem s_55 (h0 : ¬ i < 0) (h1 : i.toNatClampNeg < 40) : xm_sto (HP A L F) 0 55 i x = some (HP (va_up A 55 (upd (A 55) i.toNatClampNeg x)) L F) := by
  show (if 0 = 0 ∧ ¬ i < 0 ∧ i.toNatClampNeg < 40 then some ((HP A L F).set 55 (.inl (0, 40, .inl (upd (A 55) i.toNatClampNeg (xm_nar 0 x))))) else none) = _
  rw [if_pos ⟨rfl, h0, h1⟩]
  rfl
theorem ln_55 (hj : j < 40) : xm_ld xm_st (HP A L F) 0 55 (Int32.ofNat j) = some (A 55 j) := by
  have h := xs_tn (j := j) (by omega)
  rw [l_55 (xs_nn (by omega)) (by rw [h]; exact hj), h]
theorem sn_55 (hj : j < 40) : xm_sto (HP A L F) 0 55 (Int32.ofNat j) x = some (HP (va_up A 55 (upd (A 55) j x)) L F) := by
  have h := xs_tn (j := j) (by omega)
  rw [s_55 (xs_nn (by omega)) (by rw [h]; exact hj), h]
theorem l_56 (h0 : ¬ i < 0) (h1 : i.toNatClampNeg < 40) : xm_ld xm_st (HP A L F) 0 56 i = some (A 56 i.toNatClampNeg) := by
  show (if ¬ i < 0 ∧ i.toNatClampNeg < 40 then some (A 56 i.toNatClampNeg) else none) = _
  rw [if_pos ⟨h0, h1⟩]
theorem s_56 (h0 : ¬ i < 0) (h1 : i.toNatClampNeg < 40) : xm_sto (HP A L F) 0 56 i x = some (HP (va_up A 56 (upd (A 56) i.toNatClampNeg x)) L F) := by
  show (if 0 = 0 ∧ ¬ i < 0 ∧ i.toNatClampNeg < 40 then some ((HP A L F).set 56 (.inl (0, 40, .inl (upd (A 56) i.toNatClampNeg (xm_nar 0 x))))) else none) = _
  rw [if_pos ⟨rfl, h0, h1⟩]
  rfl
theorem ln_56 (hj : j < 40) : xm_ld xm_st (HP A L F) 0 56 (Int32.ofNat j) = some (A 56 j) := by
  have h := xs_tn (j := j) (by omega)
  rw [l_56 (xs_nn (by omega)) (by rw [h]; exact hj), h]
theorem sn_56 (hj : j < 40) : xm_sto (HP A L F) 0 56 (Int32.ofNat j) x = some (HP (va_up A 56 (upd (A 56) j x)) L F) := by
  have h := xs_tn (j := j) (by omega)
  rw [s_56 (xs_nn (by omega)) (by rw [h]; exact hj), h]
theorem l_57 (h0 : ¬ i < 0) (h1 : i.toNatClampNeg < 40) : xm_ld xm_st (HP A L F) 0 57 i = some (A 57 i.toNatClampNeg) := by
  show (if ¬ i < 0 ∧ i.toNatClampNeg < 40 then some (A 57 i.toNatClampNeg) else none) = _
  rw [if_pos ⟨h0, h1⟩]
theorem s_57 (h0 : ¬ i < 0) (h1 : i.toNatClampNeg < 40) : xm_sto (HP A L F) 0 57 i x = some (HP (va_up A 57 (upd (A 57) i.toNatClampNeg x)) L F) := by
  show (if 0 = 0 ∧ ¬ i < 0 ∧ i.toNatClampNeg < 40 then some ((HP A L F).set 57 (.inl (0, 40, .inl (upd (A 57) i.toNatClampNeg (xm_nar 0 x))))) else none) = _
  rw [if_pos ⟨rfl, h0, h1⟩]
  rfl
theorem ln_57 (hj : j < 40) : xm_ld xm_st (HP A L F) 0 57 (Int32.ofNat j) = some (A 57 j) := by
  have h := xs_tn (j := j) (by omega)
  rw [l_57 (xs_nn (by omega)) (by rw [h]; exact hj), h]
theorem sn_57 (hj : j < 40) : xm_sto (HP A L F) 0 57 (Int32.ofNat j) x = some (HP (va_up A 57 (upd (A 57) j x)) L F) := by
  have h := xs_tn (j := j) (by omega)
  rw [s_57 (xs_nn (by omega)) (by rw [h]; exact hj), h]
theorem l_58 (h0 : ¬ i < 0) (h1 : i.toNatClampNeg < 120) : xm_ld xm_st (HP A L F) 1 58 i = some (A 58 i.toNatClampNeg) := by
  show (if ¬ i < 0 ∧ i.toNatClampNeg < 120 then some (A 58 i.toNatClampNeg) else none) = _
  rw [if_pos ⟨h0, h1⟩]
theorem s_58 (h0 : ¬ i < 0) (h1 : i.toNatClampNeg < 120) : xm_sto (HP A L F) 1 58 i x = some (HP (va_up A 58 (upd (A 58) i.toNatClampNeg (xm_nar 1 x))) L F) := by
  show (if 1 = 1 ∧ ¬ i < 0 ∧ i.toNatClampNeg < 120 then some ((HP A L F).set 58 (.inl (1, 120, .inl (upd (A 58) i.toNatClampNeg (xm_nar 1 x))))) else none) = _
  rw [if_pos ⟨rfl, h0, h1⟩]
  rfl
theorem ln_58 (hj : j < 120) : xm_ld xm_st (HP A L F) 1 58 (Int32.ofNat j) = some (A 58 j) := by
  have h := xs_tn (j := j) (by omega)
  rw [l_58 (xs_nn (by omega)) (by rw [h]; exact hj), h]
theorem sn_58 (hj : j < 120) : xm_sto (HP A L F) 1 58 (Int32.ofNat j) x = some (HP (va_up A 58 (upd (A 58) j (xm_nar 1 x))) L F) := by
  have h := xs_tn (j := j) (by omega)
  rw [s_58 (xs_nn (by omega)) (by rw [h]; exact hj), h]
theorem l_59 (h0 : ¬ i < 0) (h1 : i.toNatClampNeg < 260) : xm_ld xm_st (HP A L F) 1 59 i = some (A 59 i.toNatClampNeg) := by
  show (if ¬ i < 0 ∧ i.toNatClampNeg < 260 then some (A 59 i.toNatClampNeg) else none) = _
  rw [if_pos ⟨h0, h1⟩]
theorem s_59 (h0 : ¬ i < 0) (h1 : i.toNatClampNeg < 260) : xm_sto (HP A L F) 1 59 i x = some (HP (va_up A 59 (upd (A 59) i.toNatClampNeg (xm_nar 1 x))) L F) := by
  show (if 1 = 1 ∧ ¬ i < 0 ∧ i.toNatClampNeg < 260 then some ((HP A L F).set 59 (.inl (1, 260, .inl (upd (A 59) i.toNatClampNeg (xm_nar 1 x))))) else none) = _
  rw [if_pos ⟨rfl, h0, h1⟩]
  rfl
theorem ln_59 (hj : j < 260) : xm_ld xm_st (HP A L F) 1 59 (Int32.ofNat j) = some (A 59 j) := by
  have h := xs_tn (j := j) (by omega)
  rw [l_59 (xs_nn (by omega)) (by rw [h]; exact hj), h]
theorem sn_59 (hj : j < 260) : xm_sto (HP A L F) 1 59 (Int32.ofNat j) x = some (HP (va_up A 59 (upd (A 59) j (xm_nar 1 x))) L F) := by
  have h := xs_tn (j := j) (by omega)
  rw [s_59 (xs_nn (by omega)) (by rw [h]; exact hj), h]
theorem l_60 (h0 : ¬ i < 0) (h1 : i.toNatClampNeg < 260) : xm_ld xm_st (HP A L F) 0 60 i = some (A 60 i.toNatClampNeg) := by
  show (if ¬ i < 0 ∧ i.toNatClampNeg < 260 then some (A 60 i.toNatClampNeg) else none) = _
  rw [if_pos ⟨h0, h1⟩]
theorem s_60 (h0 : ¬ i < 0) (h1 : i.toNatClampNeg < 260) : xm_sto (HP A L F) 0 60 i x = some (HP (va_up A 60 (upd (A 60) i.toNatClampNeg x)) L F) := by
  show (if 0 = 0 ∧ ¬ i < 0 ∧ i.toNatClampNeg < 260 then some ((HP A L F).set 60 (.inl (0, 260, .inl (upd (A 60) i.toNatClampNeg (xm_nar 0 x))))) else none) = _
  rw [if_pos ⟨rfl, h0, h1⟩]
  rfl
theorem ln_60 (hj : j < 260) : xm_ld xm_st (HP A L F) 0 60 (Int32.ofNat j) = some (A 60 j) := by
  have h := xs_tn (j := j) (by omega)
  rw [l_60 (xs_nn (by omega)) (by rw [h]; exact hj), h]
theorem sn_60 (hj : j < 260) : xm_sto (HP A L F) 0 60 (Int32.ofNat j) x = some (HP (va_up A 60 (upd (A 60) j x)) L F) := by
  have h := xs_tn (j := j) (by omega)
  rw [s_60 (xs_nn (by omega)) (by rw [h]; exact hj), h]
theorem l_61 (h0 : ¬ i < 0) (h1 : i.toNatClampNeg < 2) : xm_ld xm_st (HP A L F) 0 61 i = some (A 61 i.toNatClampNeg) := by
  show (if ¬ i < 0 ∧ i.toNatClampNeg < 2 then some (A 61 i.toNatClampNeg) else none) = _
  rw [if_pos ⟨h0, h1⟩]
theorem s_61 (h0 : ¬ i < 0) (h1 : i.toNatClampNeg < 2) : xm_sto (HP A L F) 0 61 i x = some (HP (va_up A 61 (upd (A 61) i.toNatClampNeg x)) L F) := by
  show (if 0 = 0 ∧ ¬ i < 0 ∧ i.toNatClampNeg < 2 then some ((HP A L F).set 61 (.inl (0, 2, .inl (upd (A 61) i.toNatClampNeg (xm_nar 0 x))))) else none) = _
  rw [if_pos ⟨rfl, h0, h1⟩]
  rfl
theorem ln_61 (hj : j < 2) : xm_ld xm_st (HP A L F) 0 61 (Int32.ofNat j) = some (A 61 j) := by
  have h := xs_tn (j := j) (by omega)
  rw [l_61 (xs_nn (by omega)) (by rw [h]; exact hj), h]
theorem sn_61 (hj : j < 2) : xm_sto (HP A L F) 0 61 (Int32.ofNat j) x = some (HP (va_up A 61 (upd (A 61) j x)) L F) := by
  have h := xs_tn (j := j) (by omega)
  rw [s_61 (xs_nn (by omega)) (by rw [h]; exact hj), h]
theorem l_62 (h0 : ¬ i < 0) (h1 : i.toNatClampNeg < 122) : xm_ld xm_st (HP A L F) 2 62 i = some (A 62 i.toNatClampNeg) := by
  show (if ¬ i < 0 ∧ i.toNatClampNeg < 122 then some (A 62 i.toNatClampNeg) else none) = _
  rw [if_pos ⟨h0, h1⟩]
theorem s_62 (h0 : ¬ i < 0) (h1 : i.toNatClampNeg < 122) : xm_sto (HP A L F) 2 62 i x = some (HP (va_up A 62 (upd (A 62) i.toNatClampNeg (xm_nar 2 x))) L F) := by
  show (if 2 = 2 ∧ ¬ i < 0 ∧ i.toNatClampNeg < 122 then some ((HP A L F).set 62 (.inl (2, 122, .inl (upd (A 62) i.toNatClampNeg (xm_nar 2 x))))) else none) = _
  rw [if_pos ⟨rfl, h0, h1⟩]
  rfl
theorem ln_62 (hj : j < 122) : xm_ld xm_st (HP A L F) 2 62 (Int32.ofNat j) = some (A 62 j) := by
  have h := xs_tn (j := j) (by omega)
  rw [l_62 (xs_nn (by omega)) (by rw [h]; exact hj), h]
theorem sn_62 (hj : j < 122) : xm_sto (HP A L F) 2 62 (Int32.ofNat j) x = some (HP (va_up A 62 (upd (A 62) j (xm_nar 2 x))) L F) := by
  have h := xs_tn (j := j) (by omega)
  rw [s_62 (xs_nn (by omega)) (by rw [h]; exact hj), h]
theorem l_63 (h0 : ¬ i < 0) (h1 : i.toNatClampNeg < 122) : xm_ld xm_st (HP A L F) 2 63 i = some (A 63 i.toNatClampNeg) := by
  show (if ¬ i < 0 ∧ i.toNatClampNeg < 122 then some (A 63 i.toNatClampNeg) else none) = _
  rw [if_pos ⟨h0, h1⟩]
theorem s_63 (h0 : ¬ i < 0) (h1 : i.toNatClampNeg < 122) : xm_sto (HP A L F) 2 63 i x = some (HP (va_up A 63 (upd (A 63) i.toNatClampNeg (xm_nar 2 x))) L F) := by
  show (if 2 = 2 ∧ ¬ i < 0 ∧ i.toNatClampNeg < 122 then some ((HP A L F).set 63 (.inl (2, 122, .inl (upd (A 63) i.toNatClampNeg (xm_nar 2 x))))) else none) = _
  rw [if_pos ⟨rfl, h0, h1⟩]
  rfl
theorem ln_63 (hj : j < 122) : xm_ld xm_st (HP A L F) 2 63 (Int32.ofNat j) = some (A 63 j) := by
  have h := xs_tn (j := j) (by omega)
  rw [l_63 (xs_nn (by omega)) (by rw [h]; exact hj), h]
theorem sn_63 (hj : j < 122) : xm_sto (HP A L F) 2 63 (Int32.ofNat j) x = some (HP (va_up A 63 (upd (A 63) j (xm_nar 2 x))) L F) := by
  have h := xs_tn (j := j) (by omega)
  rw [s_63 (xs_nn (by omega)) (by rw [h]; exact hj), h]
theorem l_64 (h0 : ¬ i < 0) (h1 : i.toNatClampNeg < 6) : xm_ld xm_st (HP A L F) 0 64 i = some (A 64 i.toNatClampNeg) := by
  show (if ¬ i < 0 ∧ i.toNatClampNeg < 6 then some (A 64 i.toNatClampNeg) else none) = _
  rw [if_pos ⟨h0, h1⟩]
theorem s_64 (h0 : ¬ i < 0) (h1 : i.toNatClampNeg < 6) : xm_sto (HP A L F) 0 64 i x = some (HP (va_up A 64 (upd (A 64) i.toNatClampNeg x)) L F) := by
  show (if 0 = 0 ∧ ¬ i < 0 ∧ i.toNatClampNeg < 6 then some ((HP A L F).set 64 (.inl (0, 6, .inl (upd (A 64) i.toNatClampNeg (xm_nar 0 x))))) else none) = _
  rw [if_pos ⟨rfl, h0, h1⟩]
  rfl
theorem ln_64 (hj : j < 6) : xm_ld xm_st (HP A L F) 0 64 (Int32.ofNat j) = some (A 64 j) := by
  have h := xs_tn (j := j) (by omega)
  rw [l_64 (xs_nn (by omega)) (by rw [h]; exact hj), h]
theorem sn_64 (hj : j < 6) : xm_sto (HP A L F) 0 64 (Int32.ofNat j) x = some (HP (va_up A 64 (upd (A 64) j x)) L F) := by
  have h := xs_tn (j := j) (by omega)
  rw [s_64 (xs_nn (by omega)) (by rw [h]; exact hj), h]
theorem l_65 (h0 : ¬ i < 0) (h1 : i.toNatClampNeg < 130) : xm_ld xm_st (HP A L F) 0 65 i = some (A 65 i.toNatClampNeg) := by
  show (if ¬ i < 0 ∧ i.toNatClampNeg < 130 then some (A 65 i.toNatClampNeg) else none) = _
  rw [if_pos ⟨h0, h1⟩]
theorem s_65 (h0 : ¬ i < 0) (h1 : i.toNatClampNeg < 130) : xm_sto (HP A L F) 0 65 i x = some (HP (va_up A 65 (upd (A 65) i.toNatClampNeg x)) L F) := by
  show (if 0 = 0 ∧ ¬ i < 0 ∧ i.toNatClampNeg < 130 then some ((HP A L F).set 65 (.inl (0, 130, .inl (upd (A 65) i.toNatClampNeg (xm_nar 0 x))))) else none) = _
  rw [if_pos ⟨rfl, h0, h1⟩]
  rfl
theorem ln_65 (hj : j < 130) : xm_ld xm_st (HP A L F) 0 65 (Int32.ofNat j) = some (A 65 j) := by
  have h := xs_tn (j := j) (by omega)
  rw [l_65 (xs_nn (by omega)) (by rw [h]; exact hj), h]
theorem sn_65 (hj : j < 130) : xm_sto (HP A L F) 0 65 (Int32.ofNat j) x = some (HP (va_up A 65 (upd (A 65) j x)) L F) := by
  have h := xs_tn (j := j) (by omega)
  rw [s_65 (xs_nn (by omega)) (by rw [h]; exact hj), h]
theorem l_66 (h0 : ¬ i < 0) (h1 : i.toNatClampNeg < 8) : xm_ld xm_st (HP A L F) 0 66 i = some (A 66 i.toNatClampNeg) := by
  show (if ¬ i < 0 ∧ i.toNatClampNeg < 8 then some (A 66 i.toNatClampNeg) else none) = _
  rw [if_pos ⟨h0, h1⟩]
theorem s_66 (h0 : ¬ i < 0) (h1 : i.toNatClampNeg < 8) : xm_sto (HP A L F) 0 66 i x = some (HP (va_up A 66 (upd (A 66) i.toNatClampNeg x)) L F) := by
  show (if 0 = 0 ∧ ¬ i < 0 ∧ i.toNatClampNeg < 8 then some ((HP A L F).set 66 (.inl (0, 8, .inl (upd (A 66) i.toNatClampNeg (xm_nar 0 x))))) else none) = _
  rw [if_pos ⟨rfl, h0, h1⟩]
  rfl
theorem ln_66 (hj : j < 8) : xm_ld xm_st (HP A L F) 0 66 (Int32.ofNat j) = some (A 66 j) := by
  have h := xs_tn (j := j) (by omega)
  rw [l_66 (xs_nn (by omega)) (by rw [h]; exact hj), h]
theorem sn_66 (hj : j < 8) : xm_sto (HP A L F) 0 66 (Int32.ofNat j) x = some (HP (va_up A 66 (upd (A 66) j x)) L F) := by
  have h := xs_tn (j := j) (by omega)
  rw [s_66 (xs_nn (by omega)) (by rw [h]; exact hj), h]
theorem l_67 (h0 : ¬ i < 0) (h1 : i.toNatClampNeg < 8) : xm_ld xm_st (HP A L F) 0 67 i = some (A 67 i.toNatClampNeg) := by
  show (if ¬ i < 0 ∧ i.toNatClampNeg < 8 then some (A 67 i.toNatClampNeg) else none) = _
  rw [if_pos ⟨h0, h1⟩]
theorem s_67 (h0 : ¬ i < 0) (h1 : i.toNatClampNeg < 8) : xm_sto (HP A L F) 0 67 i x = some (HP (va_up A 67 (upd (A 67) i.toNatClampNeg x)) L F) := by
  show (if 0 = 0 ∧ ¬ i < 0 ∧ i.toNatClampNeg < 8 then some ((HP A L F).set 67 (.inl (0, 8, .inl (upd (A 67) i.toNatClampNeg (xm_nar 0 x))))) else none) = _
  rw [if_pos ⟨rfl, h0, h1⟩]
  rfl
theorem ln_67 (hj : j < 8) : xm_ld xm_st (HP A L F) 0 67 (Int32.ofNat j) = some (A 67 j) := by
  have h := xs_tn (j := j) (by omega)
  rw [l_67 (xs_nn (by omega)) (by rw [h]; exact hj), h]
theorem sn_67 (hj : j < 8) : xm_sto (HP A L F) 0 67 (Int32.ofNat j) x = some (HP (va_up A 67 (upd (A 67) j x)) L F) := by
  have h := xs_tn (j := j) (by omega)
  rw [s_67 (xs_nn (by omega)) (by rw [h]; exact hj), h]
theorem l_68 (h0 : ¬ i < 0) (h1 : i.toNatClampNeg < 8) : xm_ld xm_st (HP A L F) 0 68 i = some (A 68 i.toNatClampNeg) := by
  show (if ¬ i < 0 ∧ i.toNatClampNeg < 8 then some (A 68 i.toNatClampNeg) else none) = _
  rw [if_pos ⟨h0, h1⟩]
theorem s_68 (h0 : ¬ i < 0) (h1 : i.toNatClampNeg < 8) : xm_sto (HP A L F) 0 68 i x = some (HP (va_up A 68 (upd (A 68) i.toNatClampNeg x)) L F) := by
  show (if 0 = 0 ∧ ¬ i < 0 ∧ i.toNatClampNeg < 8 then some ((HP A L F).set 68 (.inl (0, 8, .inl (upd (A 68) i.toNatClampNeg (xm_nar 0 x))))) else none) = _
  rw [if_pos ⟨rfl, h0, h1⟩]
  rfl
theorem ln_68 (hj : j < 8) : xm_ld xm_st (HP A L F) 0 68 (Int32.ofNat j) = some (A 68 j) := by
  have h := xs_tn (j := j) (by omega)
  rw [l_68 (xs_nn (by omega)) (by rw [h]; exact hj), h]
theorem sn_68 (hj : j < 8) : xm_sto (HP A L F) 0 68 (Int32.ofNat j) x = some (HP (va_up A 68 (upd (A 68) j x)) L F) := by
  have h := xs_tn (j := j) (by omega)
  rw [s_68 (xs_nn (by omega)) (by rw [h]; exact hj), h]
theorem l_69 (h0 : ¬ i < 0) (h1 : i.toNatClampNeg < 8) : xm_ld xm_st (HP A L F) 0 69 i = some (A 69 i.toNatClampNeg) := by
  show (if ¬ i < 0 ∧ i.toNatClampNeg < 8 then some (A 69 i.toNatClampNeg) else none) = _
  rw [if_pos ⟨h0, h1⟩]
theorem s_69 (h0 : ¬ i < 0) (h1 : i.toNatClampNeg < 8) : xm_sto (HP A L F) 0 69 i x = some (HP (va_up A 69 (upd (A 69) i.toNatClampNeg x)) L F) := by
  show (if 0 = 0 ∧ ¬ i < 0 ∧ i.toNatClampNeg < 8 then some ((HP A L F).set 69 (.inl (0, 8, .inl (upd (A 69) i.toNatClampNeg (xm_nar 0 x))))) else none) = _
  rw [if_pos ⟨rfl, h0, h1⟩]
  rfl
theorem ln_69 (hj : j < 8) : xm_ld xm_st (HP A L F) 0 69 (Int32.ofNat j) = some (A 69 j) := by
  have h := xs_tn (j := j) (by omega)
  rw [l_69 (xs_nn (by omega)) (by rw [h]; exact hj), h]
theorem sn_69 (hj : j < 8) : xm_sto (HP A L F) 0 69 (Int32.ofNat j) x = some (HP (va_up A 69 (upd (A 69) j x)) L F) := by
  have h := xs_tn (j := j) (by omega)
  rw [s_69 (xs_nn (by omega)) (by rw [h]; exact hj), h]
theorem l_70 (h0 : ¬ i < 0) (h1 : i.toNatClampNeg < 8) : xm_ld xm_st (HP A L F) 0 70 i = some (A 70 i.toNatClampNeg) := by
  show (if ¬ i < 0 ∧ i.toNatClampNeg < 8 then some (A 70 i.toNatClampNeg) else none) = _
  rw [if_pos ⟨h0, h1⟩]
theorem s_70 (h0 : ¬ i < 0) (h1 : i.toNatClampNeg < 8) : xm_sto (HP A L F) 0 70 i x = some (HP (va_up A 70 (upd (A 70) i.toNatClampNeg x)) L F) := by
  show (if 0 = 0 ∧ ¬ i < 0 ∧ i.toNatClampNeg < 8 then some ((HP A L F).set 70 (.inl (0, 8, .inl (upd (A 70) i.toNatClampNeg (xm_nar 0 x))))) else none) = _
  rw [if_pos ⟨rfl, h0, h1⟩]
  rfl
theorem ln_70 (hj : j < 8) : xm_ld xm_st (HP A L F) 0 70 (Int32.ofNat j) = some (A 70 j) := by
  have h := xs_tn (j := j) (by omega)
  rw [l_70 (xs_nn (by omega)) (by rw [h]; exact hj), h]
theorem sn_70 (hj : j < 8) : xm_sto (HP A L F) 0 70 (Int32.ofNat j) x = some (HP (va_up A 70 (upd (A 70) j x)) L F) := by
  have h := xs_tn (j := j) (by omega)
  rw [s_70 (xs_nn (by omega)) (by rw [h]; exact hj), h]
theorem l_71 (h0 : ¬ i < 0) (h1 : i.toNatClampNeg < 8) : xm_ld xm_st (HP A L F) 0 71 i = some (A 71 i.toNatClampNeg) := by
  show (if ¬ i < 0 ∧ i.toNatClampNeg < 8 then some (A 71 i.toNatClampNeg) else none) = _
  rw [if_pos ⟨h0, h1⟩]
theorem s_71 (h0 : ¬ i < 0) (h1 : i.toNatClampNeg < 8) : xm_sto (HP A L F) 0 71 i x = some (HP (va_up A 71 (upd (A 71) i.toNatClampNeg x)) L F) := by
  show (if 0 = 0 ∧ ¬ i < 0 ∧ i.toNatClampNeg < 8 then some ((HP A L F).set 71 (.inl (0, 8, .inl (upd (A 71) i.toNatClampNeg (xm_nar 0 x))))) else none) = _
  rw [if_pos ⟨rfl, h0, h1⟩]
  rfl
theorem ln_71 (hj : j < 8) : xm_ld xm_st (HP A L F) 0 71 (Int32.ofNat j) = some (A 71 j) := by
  have h := xs_tn (j := j) (by omega)
  rw [l_71 (xs_nn (by omega)) (by rw [h]; exact hj), h]
theorem sn_71 (hj : j < 8) : xm_sto (HP A L F) 0 71 (Int32.ofNat j) x = some (HP (va_up A 71 (upd (A 71) j x)) L F) := by
  have h := xs_tn (j := j) (by omega)
  rw [s_71 (xs_nn (by omega)) (by rw [h]; exact hj), h]
theorem l_72 (h0 : ¬ i < 0) (h1 : i.toNatClampNeg < 6) : xm_ld xm_st (HP A L F) 0 72 i = some (A 72 i.toNatClampNeg) := by
  show (if ¬ i < 0 ∧ i.toNatClampNeg < 6 then some (A 72 i.toNatClampNeg) else none) = _
  rw [if_pos ⟨h0, h1⟩]
theorem s_72 (h0 : ¬ i < 0) (h1 : i.toNatClampNeg < 6) : xm_sto (HP A L F) 0 72 i x = some (HP (va_up A 72 (upd (A 72) i.toNatClampNeg x)) L F) := by
  show (if 0 = 0 ∧ ¬ i < 0 ∧ i.toNatClampNeg < 6 then some ((HP A L F).set 72 (.inl (0, 6, .inl (upd (A 72) i.toNatClampNeg (xm_nar 0 x))))) else none) = _
  rw [if_pos ⟨rfl, h0, h1⟩]
  rfl
theorem ln_72 (hj : j < 6) : xm_ld xm_st (HP A L F) 0 72 (Int32.ofNat j) = some (A 72 j) := by
  have h := xs_tn (j := j) (by omega)
  rw [l_72 (xs_nn (by omega)) (by rw [h]; exact hj), h]
theorem sn_72 (hj : j < 6) : xm_sto (HP A L F) 0 72 (Int32.ofNat j) x = some (HP (va_up A 72 (upd (A 72) j x)) L F) := by
  have h := xs_tn (j := j) (by omega)
  rw [s_72 (xs_nn (by omega)) (by rw [h]; exact hj), h]
theorem l_73 (h0 : ¬ i < 0) (h1 : i.toNatClampNeg < 32) : xm_ld xm_st (HP A L F) 0 73 i = some (A 73 i.toNatClampNeg) := by
  show (if ¬ i < 0 ∧ i.toNatClampNeg < 32 then some (A 73 i.toNatClampNeg) else none) = _
  rw [if_pos ⟨h0, h1⟩]
theorem s_73 (h0 : ¬ i < 0) (h1 : i.toNatClampNeg < 32) : xm_sto (HP A L F) 0 73 i x = some (HP (va_up A 73 (upd (A 73) i.toNatClampNeg x)) L F) := by
  show (if 0 = 0 ∧ ¬ i < 0 ∧ i.toNatClampNeg < 32 then some ((HP A L F).set 73 (.inl (0, 32, .inl (upd (A 73) i.toNatClampNeg (xm_nar 0 x))))) else none) = _
  rw [if_pos ⟨rfl, h0, h1⟩]
  rfl
theorem ln_73 (hj : j < 32) : xm_ld xm_st (HP A L F) 0 73 (Int32.ofNat j) = some (A 73 j) := by
  have h := xs_tn (j := j) (by omega)
  rw [l_73 (xs_nn (by omega)) (by rw [h]; exact hj), h]
theorem sn_73 (hj : j < 32) : xm_sto (HP A L F) 0 73 (Int32.ofNat j) x = some (HP (va_up A 73 (upd (A 73) j x)) L F) := by
  have h := xs_tn (j := j) (by omega)
  rw [s_73 (xs_nn (by omega)) (by rw [h]; exact hj), h]
theorem l_74 (h0 : ¬ i < 0) (h1 : i.toNatClampNeg < 6) : xm_ld xm_st (HP A L F) 0 74 i = some (A 74 i.toNatClampNeg) := by
  show (if ¬ i < 0 ∧ i.toNatClampNeg < 6 then some (A 74 i.toNatClampNeg) else none) = _
  rw [if_pos ⟨h0, h1⟩]
theorem s_74 (h0 : ¬ i < 0) (h1 : i.toNatClampNeg < 6) : xm_sto (HP A L F) 0 74 i x = some (HP (va_up A 74 (upd (A 74) i.toNatClampNeg x)) L F) := by
  show (if 0 = 0 ∧ ¬ i < 0 ∧ i.toNatClampNeg < 6 then some ((HP A L F).set 74 (.inl (0, 6, .inl (upd (A 74) i.toNatClampNeg (xm_nar 0 x))))) else none) = _
  rw [if_pos ⟨rfl, h0, h1⟩]
  rfl
theorem ln_74 (hj : j < 6) : xm_ld xm_st (HP A L F) 0 74 (Int32.ofNat j) = some (A 74 j) := by
  have h := xs_tn (j := j) (by omega)
  rw [l_74 (xs_nn (by omega)) (by rw [h]; exact hj), h]
theorem sn_74 (hj : j < 6) : xm_sto (HP A L F) 0 74 (Int32.ofNat j) x = some (HP (va_up A 74 (upd (A 74) j x)) L F) := by
  have h := xs_tn (j := j) (by omega)
  rw [s_74 (xs_nn (by omega)) (by rw [h]; exact hj), h]
theorem l_75 (h0 : ¬ i < 0) (h1 : i.toNatClampNeg < 50) : xm_ld xm_st (HP A L F) 0 75 i = some (A 75 i.toNatClampNeg) := by
  show (if ¬ i < 0 ∧ i.toNatClampNeg < 50 then some (A 75 i.toNatClampNeg) else none) = _
  rw [if_pos ⟨h0, h1⟩]
theorem s_75 (h0 : ¬ i < 0) (h1 : i.toNatClampNeg < 50) : xm_sto (HP A L F) 0 75 i x = some (HP (va_up A 75 (upd (A 75) i.toNatClampNeg x)) L F) := by
  show (if 0 = 0 ∧ ¬ i < 0 ∧ i.toNatClampNeg < 50 then some ((HP A L F).set 75 (.inl (0, 50, .inl (upd (A 75) i.toNatClampNeg (xm_nar 0 x))))) else none) = _
  rw [if_pos ⟨rfl, h0, h1⟩]
  rfl
theorem ln_75 (hj : j < 50) : xm_ld xm_st (HP A L F) 0 75 (Int32.ofNat j) = some (A 75 j) := by
  have h := xs_tn (j := j) (by omega)
  rw [l_75 (xs_nn (by omega)) (by rw [h]; exact hj), h]
theorem sn_75 (hj : j < 50) : xm_sto (HP A L F) 0 75 (Int32.ofNat j) x = some (HP (va_up A 75 (upd (A 75) j x)) L F) := by
  have h := xs_tn (j := j) (by omega)
  rw [s_75 (xs_nn (by omega)) (by rw [h]; exact hj), h]
theorem l_76 (h0 : ¬ i < 0) (h1 : i.toNatClampNeg < 24) : xm_ld xm_st (HP A L F) 0 76 i = some (A 76 i.toNatClampNeg) := by
  show (if ¬ i < 0 ∧ i.toNatClampNeg < 24 then some (A 76 i.toNatClampNeg) else none) = _
  rw [if_pos ⟨h0, h1⟩]
theorem s_76 (h0 : ¬ i < 0) (h1 : i.toNatClampNeg < 24) : xm_sto (HP A L F) 0 76 i x = some (HP (va_up A 76 (upd (A 76) i.toNatClampNeg x)) L F) := by
  show (if 0 = 0 ∧ ¬ i < 0 ∧ i.toNatClampNeg < 24 then some ((HP A L F).set 76 (.inl (0, 24, .inl (upd (A 76) i.toNatClampNeg (xm_nar 0 x))))) else none) = _
  rw [if_pos ⟨rfl, h0, h1⟩]
  rfl
theorem ln_76 (hj : j < 24) : xm_ld xm_st (HP A L F) 0 76 (Int32.ofNat j) = some (A 76 j) := by
  have h := xs_tn (j := j) (by omega)
  rw [l_76 (xs_nn (by omega)) (by rw [h]; exact hj), h]
theorem sn_76 (hj : j < 24) : xm_sto (HP A L F) 0 76 (Int32.ofNat j) x = some (HP (va_up A 76 (upd (A 76) j x)) L F) := by
  have h := xs_tn (j := j) (by omega)
  rw [s_76 (xs_nn (by omega)) (by rw [h]; exact hj), h]
theorem l_77 (h0 : ¬ i < 0) (h1 : i.toNatClampNeg < 6) : xm_ld xm_st (HP A L F) 0 77 i = some (A 77 i.toNatClampNeg) := by
  show (if ¬ i < 0 ∧ i.toNatClampNeg < 6 then some (A 77 i.toNatClampNeg) else none) = _
  rw [if_pos ⟨h0, h1⟩]
theorem s_77 (h0 : ¬ i < 0) (h1 : i.toNatClampNeg < 6) : xm_sto (HP A L F) 0 77 i x = some (HP (va_up A 77 (upd (A 77) i.toNatClampNeg x)) L F) := by
  show (if 0 = 0 ∧ ¬ i < 0 ∧ i.toNatClampNeg < 6 then some ((HP A L F).set 77 (.inl (0, 6, .inl (upd (A 77) i.toNatClampNeg (xm_nar 0 x))))) else none) = _
  rw [if_pos ⟨rfl, h0, h1⟩]
  rfl
theorem ln_77 (hj : j < 6) : xm_ld xm_st (HP A L F) 0 77 (Int32.ofNat j) = some (A 77 j) := by
  have h := xs_tn (j := j) (by omega)
  rw [l_77 (xs_nn (by omega)) (by rw [h]; exact hj), h]
theorem sn_77 (hj : j < 6) : xm_sto (HP A L F) 0 77 (Int32.ofNat j) x = some (HP (va_up A 77 (upd (A 77) j x)) L F) := by
  have h := xs_tn (j := j) (by omega)
  rw [s_77 (xs_nn (by omega)) (by rw [h]; exact hj), h]
theorem l_78 (h0 : ¬ i < 0) (h1 : i.toNatClampNeg < 6) : xm_ld xm_st (HP A L F) 0 78 i = some (A 78 i.toNatClampNeg) := by
  show (if ¬ i < 0 ∧ i.toNatClampNeg < 6 then some (A 78 i.toNatClampNeg) else none) = _
  rw [if_pos ⟨h0, h1⟩]
theorem s_78 (h0 : ¬ i < 0) (h1 : i.toNatClampNeg < 6) : xm_sto (HP A L F) 0 78 i x = some (HP (va_up A 78 (upd (A 78) i.toNatClampNeg x)) L F) := by
  show (if 0 = 0 ∧ ¬ i < 0 ∧ i.toNatClampNeg < 6 then some ((HP A L F).set 78 (.inl (0, 6, .inl (upd (A 78) i.toNatClampNeg (xm_nar 0 x))))) else none) = _
  rw [if_pos ⟨rfl, h0, h1⟩]
  rfl
theorem ln_78 (hj : j < 6) : xm_ld xm_st (HP A L F) 0 78 (Int32.ofNat j) = some (A 78 j) := by
  have h := xs_tn (j := j) (by omega)
  rw [l_78 (xs_nn (by omega)) (by rw [h]; exact hj), h]
theorem sn_78 (hj : j < 6) : xm_sto (HP A L F) 0 78 (Int32.ofNat j) x = some (HP (va_up A 78 (upd (A 78) j x)) L F) := by
  have h := xs_tn (j := j) (by omega)
  rw [s_78 (xs_nn (by omega)) (by rw [h]; exact hj), h]
theorem l_79 (h0 : ¬ i < 0) (h1 : i.toNatClampNeg < 360) : xm_ldL (HP A L F) 79 i = some (L 79 i.toNatClampNeg) := by
  show (if ¬ i < 0 ∧ i.toNatClampNeg < 360 then some (L 79 i.toNatClampNeg) else none) = _
  rw [if_pos ⟨h0, h1⟩]
theorem s_79 (h0 : ¬ i < 0) (h1 : i.toNatClampNeg < 360) : xm_stoL (HP A L F) 79 i y = some (HP A (va_up L 79 (vp_updL (L 79) i.toNatClampNeg y)) F) := by
  show (if ¬ i < 0 ∧ i.toNatClampNeg < 360 then some ((HP A L F).set 79 (.inl (3, 360, .inr (.inl (vp_updL (L 79) i.toNatClampNeg y))))) else none) = _
  rw [if_pos ⟨h0, h1⟩]
  rfl
theorem ln_79 (hj : j < 360) : xm_ldL (HP A L F) 79 (Int32.ofNat j) = some (L 79 j) := by
  have h := xs_tn (j := j) (by omega)
  rw [l_79 (xs_nn (by omega)) (by rw [h]; exact hj), h]
theorem sn_79 (hj : j < 360) : xm_stoL (HP A L F) 79 (Int32.ofNat j) y = some (HP A (va_up L 79 (vp_updL (L 79) j y)) F) := by
  have h := xs_tn (j := j) (by omega)
  rw [s_79 (xs_nn (by omega)) (by rw [h]; exact hj), h]
theorem l_80 (h0 : ¬ i < 0) (h1 : i.toNatClampNeg < 60) : xm_ldL (HP A L F) 80 i = some (L 80 i.toNatClampNeg) := by
  show (if ¬ i < 0 ∧ i.toNatClampNeg < 60 then some (L 80 i.toNatClampNeg) else none) = _
  rw [if_pos ⟨h0, h1⟩]
theorem s_80 (h0 : ¬ i < 0) (h1 : i.toNatClampNeg < 60) : xm_stoL (HP A L F) 80 i y = some (HP A (va_up L 80 (vp_updL (L 80) i.toNatClampNeg y)) F) := by
  show (if ¬ i < 0 ∧ i.toNatClampNeg < 60 then some ((HP A L F).set 80 (.inl (3, 60, .inr (.inl (vp_updL (L 80) i.toNatClampNeg y))))) else none) = _
  rw [if_pos ⟨h0, h1⟩]
  rfl
theorem ln_80 (hj : j < 60) : xm_ldL (HP A L F) 80 (Int32.ofNat j) = some (L 80 j) := by
  have h := xs_tn (j := j) (by omega)
  rw [l_80 (xs_nn (by omega)) (by rw [h]; exact hj), h]
theorem sn_80 (hj : j < 60) : xm_stoL (HP A L F) 80 (Int32.ofNat j) y = some (HP A (va_up L 80 (vp_updL (L 80) j y)) F) := by
  have h := xs_tn (j := j) (by omega)
  rw [s_80 (xs_nn (by omega)) (by rw [h]; exact hj), h]
end HPL
