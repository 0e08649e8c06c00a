section RKB
variable {A : Nat → Nat → Int32} {L : Nat → Nat → Int64} {F : Nat → Nat → Int32} {g : Int32 → xm_H → Prop} {gv : xm_H → Prop} {w n p k j y K : Nat} {x v z : Int32} {h : xm_H}
def cut6 (f : Nat → Int32) : Nat → Int32 := fun j => if j < 6 then f j else 0
def nmv (a b c d e f : Int32) : Nat → Int32 := fun j => match j with
  | 0 => a
  | 1 => b
  | 2 => c
  | 3 => d
  | 4 => e
  | 5 => f
  | _ => 0
theorem cut6_upd (f : Nat → Int32) (a b c d e i : Int32) : cut6 (upd (upd (upd (upd (upd (upd f 0 a) 1 b) 2 c) 3 d) 4 e) 5 i) = nmv a b c d e i := by
  funext j
  match j with
  | 0 => rfl
  | 1 => rfl
  | 2 => rfl
  | 3 => rfl
  | 4 => rfl
  | 5 => rfl
  | j + 6 => exact if_neg (by omega)
/-- the law as the class has it: what a text says of six numbers; none: the saying's own count -/
def dflt : (Nat → Int32) → Int32 := fun m => (5 - m 0) + m 1 / 3
def TXok (A : Nat → Nat → Int32) (F : Nat → Nat → Int32) (tc : (Nat → Int32) → Int32) : Prop :=
  (F 6 1 = 0 ∧ tc = dflt) ∨ (F 6 1 ≠ 0 ∧ ∀ (A' : Nat → Nat → Int32) (L' : Nat → Nat → Int64) (F' : Nat → Nat → Int32) (g : Int32 → xm_H → Prop), A' 7 = A 7 → F' 6 = F 6 → (∀ f, g (tc (cut6 (A' 9))) (HP (va_up A' 8 f) L' F')) → xm_Call 3 sX6_workOut 6 [.ref 6, .ref 9] (HP A' L' F') (xm_pi g))
theorem TXok.to {A A' : Nat → Nat → Int32} {F F' : Nat → Nat → Int32} {tc : (Nat → Int32) → Int32} (h : TXok A F tc) (h7 : A' 7 = A 7) (h6 : F' 6 = F 6) : TXok A' F' tc := by
  rcases h with ⟨h1, h2⟩ | ⟨h1, h2⟩
  · exact Or.inl ⟨by rw [h6]; exact h1, h2⟩
  · exact Or.inr ⟨by rw [h6]; exact h1, fun B M G g a b c => h2 B M G g (a.trans h7) (b.trans h6) c⟩
def clip (x : Int32) : Int32 := if 0 < (if x < 20 then x else 20) then (if x < 20 then x else 20) else 0
def hbt (c : Nat → Int32) : Nat → Int32 := fun q => c (24 + q)
/-- what the saying of p counts, by the cells c of a world of n people in the year y -/
def cntW (tc : (Nat → Int32) → Int32) (c : Nat → Int32) (n y p : Nat) : Int32 :=
  clip (tc (nmv (c (32 + p)) (c p) (c (16 + p)) (if c (24 + p) = 1 ∨ c (24 + p) = 2 then Int32.ofNat (nSay (hbt c) n) - 1 else Int32.ofNat (nSay (hbt c) n)) (c (56 + y % 8)) (Int32.ofNat (nGo (hbt c) n))))
theorem c_isEmpty (hK : 0 < K) (H : g (if F 6 1 = 0 then 1 else 0) (HP A L F)) : xm_Call K sX6_isEmpty 6 [.ref 6] (HP A L F) (xm_pi g) := by
  refine eX6_isEmpty (K := 0) hK ⟨_, rfl⟩ ⟨_, rfl, ?_⟩
  split
  · next hc => rw [if_pos hc] at H; exact xm_pi_i H
  · next hc => rw [if_neg hc] at H; exact xm_pi_i H
theorem w_up {f : Nat → Int32} {c : Nat} (hw : isW w) (hc : c ≠ 2) (hc4 : c ≠ 4) (hc22 : c ≠ 22) : va_up A c f (w + 1) = A (w + 1) := u_ne (by rcases hw with rfl | rfl | rfl <;> omega)
set_option maxHeartbeats 2000000 in
/-- behind look(w): what p's saying counts; names and stack change -/
theorem c_countsOf {tc : (Nat → Int32) → Int32} (hK : 4 < K) (hw : isW w) (hn : F w 1 = Int32.ofNat n) (hn8 : n ≤ 8) (hp : p < n) (hy : y < 200) (he : A (w + 1) 64 = Int32.ofNat y) (ht : TXok A F tc) (h5 : F 5 5 = Int32.ofNat (nSay (hbt (A (w + 1))) n)) (h6 : F 5 6 = Int32.ofNat (nGo (hbt (A (w + 1))) n)) (H : ∀ A', Ag [8, 9] A A' → g (cntW tc (A (w + 1)) n y p) (HP A' L F)) : xm_Call K sX4_countsOf 4 [.ref 5, .ref w, .int (Int32.ofNat p)] (HP A L F) (xm_pi g) := by
  refine eX4_countsOf (K := 4) hK ⟨_, rfl⟩ ⟨_, rfl, ?_⟩
  refine c_get (k := 4) (by omega) hw hn hn8 hp (by omega) ⟨_, sn_9 (j := 0) (by omega), _, rfl, ?_⟩
  refine c_get (k := 0) (by omega) hw hn hn8 hp (by omega) ⟨_, sn_9 (j := 1) (by omega), _, rfl, ?_⟩
  refine c_get (k := 2) (by omega) hw hn hn8 hp (by omega) ⟨_, sn_9 (j := 2) (by omega), _, rfl, ?_⟩
  refine c_get (k := 3) (by omega) hw hn hn8 hp (by omega) ?_
  refine c_isSaid (by omega) ?_
  simp only [w_up hw (show (9 : Nat) ≠ 2 by omega) (show (9 : Nat) ≠ 4 by omega) (show (9 : Nat) ≠ 22 by omega), u_eq]
  have tail : ∀ o : Int32, (if A (w + 1) (24 + p) = 1 ∨ A (w + 1) (24 + p) = 2 then Int32.ofNat (nSay (hbt (A (w + 1))) n) - 1 else Int32.ofNat (nSay (hbt (A (w + 1))) n)) = o → ∀ B : Nat → Nat → Int32, Ag [8, 9] A B → B 9 = upd (upd (upd (upd (A 9) 0 (A (w + 1) (8 * 4 + p))) 1 (A (w + 1) (8 * 0 + p))) 2 (A (w + 1) (8 * 2 + p))) 3 o → ∃ q20, xm_fld (HP B L F) 5 4 1 = some (.ref q20) ∧ xm_Call 4 sX7_snow 7 [.ref w] (HP B L F) (xm_pi fun c22 h21 => ∃ h23, xm_sto h21 0 q20 (4 : Int32) c22 = some h23 ∧ ∃ q24, xm_fld h23 5 4 1 = some (.ref q24) ∧ ∃ f25, xm_fld h23 5 4 6 = some (.int f25) ∧ ∃ h26, xm_sto h23 0 q24 (5 : Int32) f25 = some h26 ∧ ∃ q27, xm_fld h26 5 4 0 = some (.ref q27) ∧ xm_Call 4 sX6_isEmpty 6 [.ref q27] h26 (xm_pi fun c29 h28 => (if c29 = 0 then ∃ q30, xm_fld h28 5 4 0 = some (.ref q30) ∧ ∃ q31, xm_fld h28 5 4 1 = some (.ref q31) ∧ xm_Call 4 sX6_workOut 6 [.ref q30, .ref q31] h28 (xm_pi fun c33 h32 => xm_Call 4 sJ9_min_7cf53 99 [.int (20 : Int32), .int c33] h32 (xm_pi fun c35 h34 => xm_Call 4 sJ9_max_7cf53 99 [.int (0 : Int32), .int c35] h34 (xm_pi fun c37 h36 => xm_pi g (some (.int c37)) h36))) else ∃ q38, xm_fld h28 5 4 1 = some (.ref q38) ∧ ∃ e39, xm_ld xm_st h28 0 q38 (0 : Int32) = some e39 ∧ ∃ q40, xm_fld h28 5 4 1 = some (.ref q40) ∧ ∃ e41, xm_ld xm_st h28 0 q40 (1 : Int32) = some e41 ∧ ¬ (3 : Int32) = 0 ∧ xm_Call 4 sJ9_min_7cf53 99 [.int (20 : Int32), .int (((5 : Int32) - e39) + (e41 / (3 : Int32)))] h28 (xm_pi fun c43 h42 => xm_Call 4 sJ9_max_7cf53 99 [.int (0 : Int32), .int c43] h42 (xm_pi fun c45 h44 => xm_pi g (some (.int c45)) h44))))) := by
    intro o ho B hB h9
    have hBw : B (w + 1) = A (w + 1) := hB _ (by rcases hw with rfl | rfl | rfl <;> simp)
    refine ⟨_, rfl, c_snow (y := y) (by omega) hw hy (by rw [hBw]; exact he) ⟨_, sn_9 (j := 4) (by omega), _, rfl, _, rfl, _, sn_9 (j := 5) (by omega), _, rfl, ?_⟩⟩
    refine c_isEmpty (by omega) ?_
    have hnm : cut6 (upd (upd (B 9) 4 (B (w + 1) (56 + y % 8))) 5 (F 5 6)) = nmv (A (w + 1) (32 + p)) (A (w + 1) p) (A (w + 1) (16 + p)) o (A (w + 1) (56 + y % 8)) (Int32.ofNat (nGo (hbt (A (w + 1))) n)) := by
      rw [h9, hBw, h6, cut6_upd]
      simp
    rcases ht with ⟨t1, t2⟩ | ⟨t1, t2⟩
    · rw [if_pos t1, if_neg (by decide)]
      refine ⟨_, rfl, _, ln_9 (j := 0) (by omega), _, rfl, _, ln_9 (j := 1) (by omega), by decide, c_min (by omega) (c_max (by omega) (xm_pi_i ?_))⟩
      have H' := H (va_up (va_up B 9 (upd (B 9) 4 (B (w + 1) (56 + y % 8)))) 9 (upd (upd (B 9) 4 (B (w + 1) (56 + y % 8))) 5 (F 5 6))) (Ag.up (Ag.up hB (by simp)) (by simp))
      unfold cntW at H'
      rw [ho, ← hnm, t2] at H'
      exact H'
    · rw [if_neg t1, if_pos rfl]
      refine ⟨_, rfl, _, rfl, ?_⟩
      have hc := t2 (va_up (va_up B 9 (upd (B 9) 4 (B (w + 1) (56 + y % 8)))) 9 (upd (upd (B 9) 4 (B (w + 1) (56 + y % 8))) 5 (F 5 6))) L F (fun c33 h32 => xm_Call 4 sJ9_min_7cf53 99 [.int (20 : Int32), .int c33] h32 (xm_pi fun c35 h34 => xm_Call 4 sJ9_max_7cf53 99 [.int (0 : Int32), .int c35] h34 (xm_pi fun c37 h36 => xm_pi g (some (.int c37)) h36))) (hB 7 (by simp)) rfl (fun f => ?_)
      · exact ⟨hc.1, hc.2.choose, by have := hc.2.choose_spec.1; omega, hc.2.choose_spec.2⟩
      · refine c_min (by omega) (c_max (by omega) (xm_pi_i ?_))
        have H' := H (va_up (va_up (va_up B 9 (upd (B 9) 4 (B (w + 1) (56 + y % 8)))) 9 (upd (upd (B 9) 4 (B (w + 1) (56 + y % 8))) 5 (F 5 6))) 8 f) (Ag.up (Ag.up (Ag.up hB (by simp)) (by simp)) (by simp))
        unfold cntW at H'
        rw [ho, ← hnm] at H'
        exact H'
  by_cases hs : A (w + 1) (8 * 3 + p) = 1 ∨ A (w + 1) (8 * 3 + p) = 2
  · rw [if_pos hs, if_neg (by decide)]
    refine ⟨_, rfl, _, sn_9 (j := 3) (by omega), ?_⟩
    exact tail _ (by rw [if_pos hs, ← h5]) _ (Ag.up (Ag.up (Ag.up (Ag.up Ag.rf (by simp)) (by simp)) (by simp)) (by simp)) rfl
  · rw [if_neg hs, if_pos rfl]
    refine ⟨_, rfl, _, sn_9 (j := 3) (by omega), ?_⟩
    exact tail _ (by rw [if_neg hs, ← h5]) _ (Ag.up (Ag.up (Ag.up (Ag.up Ag.rf (by simp)) (by simp)) (by simp)) (by simp)) rfl
end RKB
