section QRC
variable {A : Nat → Nat → Int32} {L : Nat → Nat → Int64} {F : Nat → Nat → Int32} {g : Int32 → xm_H → Prop} {gv : xm_H → Prop} {w n p k j y e K : Nat} {x v z : Int32} {h : xm_H} {tc : (Nat → Int32) → Int32}
/-- those of whom f is above 0, as bits -/
def posB (f : Nat → Int32) (n : Nat) : Nat := bitsN (fun q => if 0 < f q then 1 else 0) n
theorem posB_lt (f : Nat → Int32) {n : Nat} (h : n ≤ 8) : posB f n < 256 := Nat.lt_of_lt_of_le (bitsN_lt _ n) (Nat.le_trans (Nat.pow_le_pow_right (by omega) h) (by decide))
theorem posB_s {f : Nat → Int32} (h : 0 < f p) : posB f (p + 1) = posB f p + 2 ^ p := by show _ + _ = _; rw [if_pos (show (if 0 < f p then (1 : Int32) else 0) = 1 by rw [if_pos h])]; rfl
theorem posB_n {f : Nat → Int32} (h : ¬ 0 < f p) : posB f (p + 1) = posB f p := by show _ + _ = _; rw [if_neg (show ¬ (if 0 < f p then (1 : Int32) else 0) = 1 by rw [if_neg h]; decide)]; rfl
theorem posB_or {f : Nat → Int32} (hp : p < 8) (h : 0 < f p) : Int32.ofNat (posB f p) ||| ((1 : Int32) <<< (Int32.ofNat p &&& 31)) = Int32.ofNat (posB f (p + 1)) := by rw [posB_s h]; exact n_or1 p hp _ (bitsN_lt _ p)
theorem posB_or0 {f : Nat → Int32} (h : ¬ 0 < f p) : Int32.ofNat (posB f p) ||| (0 : Int32) = Int32.ofNat (posB f (p + 1)) := by rw [posB_n h]; exact Int32.or_zero
theorem bitsN_eq {f s : Nat → Int32} : ∀ n, (∀ q, q < n → f q = s q) → bitsN f n = bitsN s n
  | 0, _ => rfl
  | n + 1, h => by show bitsN f n + _ = bitsN s n + _; rw [bitsN_eq n (fun q hq => h q (by omega)), h n (by omega)]
theorem posB_eq {f s : Nat → Int32} (h : ∀ q, q < n → f q = s q) : posB f n = posB s n := bitsN_eq n (fun q hq => by rw [h q hq])
/-- spared(): whom an alike share of all assessed would cost less -/
def sprS (as sh : Nat → Int32) (n : Nat) : Nat := posB (fun q => if 0 < as q ∧ pldS (posB as n) sh n < sh q then 1 else 0) n
theorem sprS_eq {a a' s s' : Nat → Int32} (h1 : ∀ q, q < n → a q = a' q) (h2 : ∀ q, q < n → s q = s' q) : sprS a s n = sprS a' s' n := by
  unfold sprS
  refine posB_eq (fun q hq => ?_)
  have : pldS (posB a n) s n = pldS (posB a' n) s' n := by rw [posB_eq h1]; unfold pldS; rw [pSum_eq n h2]
  show (if _ then _ else _) = (if _ then _ else _)
  rw [h1 q hq, h2 q hq, this]
theorem q_spared (hK : 7 < K) (hN : NowOk A F tc n y) (H : ∀ A' F', Sc A F A' F' → g (Int32.ofNat (sprS (sAs tc (A 2) n y (earsOf (A 2) n)) (sSh tc (A 2) n y (earsOf (A 2) n)) n)) (HP A' L F')) : xm_Call K sX8_spared 8 [.ref 0] (HP A L F) (xm_pi g) := by
  have hn8 := hN.1.2.2.1
  refine eX8_spared (K := 7) hK ⟨_, rfl⟩ ⟨_, rfl, _, rfl, c_reckonN (by omega) hN (fun A1 F1 s1 r1 => ?_)⟩
  have hN1 := s1.now hN
  have hn : F1 1 1 = Int32.ofNat n := hN1.1.2.1
  refine xm_for (n := n) (Q := fun p h => xm_L 7 sX8_spared kX8_spared 9 [some (.ref 0), some (.int (Int32.ofNat (posB (A1 11) p))), some (.int (Int32.ofNat p)), none, none] [] h (xm_pi g)) (fun _ h => h = HP A1 L F1) ?_ ?_ 0 _ (Nat.zero_le _) rfl
  · rintro p h hp rfl ih
    refine xX8_spared_9 ⟨_, rfl, _, rfl, ?_⟩
    rw [hn, if_pos ((n_lt (by omega) (by omega)).mpr hp)]
    refine ⟨_, rfl, _, rfl, _, ln_11 (by omega), ?_⟩
    split
    · next hc => rw [posB_or (by omega) hc, n_succ]; exact ih _ rfl
    · next hc => rw [posB_or0 hc, n_succ]; exact ih _ rfl
  · rintro h rfl
    refine xX8_spared_9 ⟨_, rfl, _, rfl, ?_⟩
    rw [hn, if_neg (fun q => absurd ((n_lt (by omega) (by omega)).mp q) (by omega))]
    refine c_pooled (by omega) hn hn8 (posB_lt _ hn8) ?_
    refine xm_for (n := n) (Q := fun p h => xm_L 7 sX8_spared kX8_spared 38 [some (.ref 0), none, some (.int (pldS (posB (A1 11) n) (A1 12) n)), some (.int (Int32.ofNat (posB (fun q => if 0 < A1 11 q ∧ pldS (posB (A1 11) n) (A1 12) n < A1 12 q then 1 else 0) p))), some (.int (Int32.ofNat p))] [] h (xm_pi g)) (fun _ h => h = HP A1 L F1) ?_ ?_ 0 _ (Nat.zero_le _) rfl
    · rintro p h hp rfl ih
      refine xX8_spared_38 ⟨_, rfl, _, rfl, ?_⟩
      rw [hn, if_pos ((n_lt (by omega) (by omega)).mpr hp)]
      refine ⟨_, rfl, _, rfl, _, ln_11 (by omega), ?_⟩
      by_cases h1 : 0 < A1 11 p
      · rw [if_pos h1]
        refine ⟨_, rfl, _, rfl, _, ln_12 (by omega), ?_⟩
        by_cases h2 : pldS (posB (A1 11) n) (A1 12) n < A1 12 p
        · rw [if_pos h2, posB_or (by omega) (by rw [if_pos ⟨h1, h2⟩]; decide), n_succ]; exact ih _ rfl
        · rw [if_neg h2, posB_or0 (by rw [if_neg (fun q => h2 q.2)]; decide), n_succ]; exact ih _ rfl
      · rw [if_neg h1, posB_or0 (by rw [if_neg (fun q => h1 q.1)]; decide), n_succ]; exact ih _ rfl
    · rintro h rfl
      refine xX8_spared_38 ⟨_, rfl, _, rfl, ?_⟩
      rw [hn, if_neg (fun q => absurd ((n_lt (by omega) (by omega)).mp q) (by omega))]
      refine xm_pi_i ?_
      have hh := H A1 F1 s1
      rw [← sprS_eq (fun q hq => r1.2.1 q (by omega)) (fun q hq => r1.2.2.1 q (by omega))] at hh
      exact hh
/-- the dearest: what he pays, and who he is -/
def drW (s : Nat → Int32) : Nat → Int32
  | 0 => 0
  | m + 1 => if drW s m < s m then s m else drW s m
def drI (s : Nat → Int32) : Nat → Int32
  | 0 => -2
  | m + 1 => if drW s m < s m then Int32.ofNat m else drI s m
theorem dr_eq {s t : Nat → Int32} : ∀ m, (∀ q, q < m → s q = t q) → drW s m = drW t m ∧ drI s m = drI t m
  | 0, _ => ⟨rfl, rfl⟩
  | m + 1, h => by
    have ih := dr_eq m (fun q hq => h q (by omega))
    constructor
    · show (if drW s m < s m then s m else drW s m) = (if drW t m < t m then t m else drW t m)
      rw [ih.1, h m (by omega)]
    · show (if drW s m < s m then Int32.ofNat m else drI s m) = (if drW t m < t m then Int32.ofNat m else drI t m)
      rw [ih.1, ih.2, h m (by omega)]
theorem c_dearest (hK : 7 < K) (hN : NowOk A F tc n y) (H : ∀ A' F', Sc A F A' F' → g (drI (sSh tc (A 2) n y (earsOf (A 2) n)) n) (HP A' L F')) : xm_Call K sX8_dearest 8 [.ref 0] (HP A L F) (xm_pi g) := by
  have hn8 := hN.1.2.2.1
  refine eX8_dearest (K := 7) hK ⟨_, rfl⟩ ⟨_, rfl, _, rfl, c_reckonN (by omega) hN (fun A1 F1 s1 r1 => ?_)⟩
  have hn : F1 1 1 = Int32.ofNat n := (s1.now hN).1.2.1
  refine xm_for (n := n) (Q := fun p h => xm_L 7 sX8_dearest kX8_dearest 11 [some (.ref 0), some (.int (drI (A1 12) p)), some (.int (drW (A1 12) p)), some (.int (Int32.ofNat p))] [] h (xm_pi g)) (fun _ h => h = HP A1 L F1) ?_ ?_ 0 _ (Nat.zero_le _) rfl
  · rintro p h hp rfl ih
    have hi := ih _ rfl
    refine xX8_dearest_11 ⟨_, rfl, _, rfl, ?_⟩
    rw [hn, if_pos ((n_lt (by omega) (by omega)).mpr hp)]
    refine ⟨_, rfl, _, rfl, _, ln_12 (by omega), ?_⟩
    have e1 : drI (A1 12) (p + 1) = if drW (A1 12) p < A1 12 p then Int32.ofNat p else drI (A1 12) p := rfl
    have e2 : drW (A1 12) (p + 1) = if drW (A1 12) p < A1 12 p then A1 12 p else drW (A1 12) p := rfl
    rw [e1, e2] at hi
    split
    · next hc =>
      rw [if_pos hc, if_pos hc] at hi
      refine ⟨_, rfl, _, rfl, _, ln_12 (by omega), ?_⟩
      rw [n_succ]; exact hi
    · next hc =>
      rw [if_neg hc, if_neg hc] at hi
      rw [n_succ]; exact hi
  · rintro h rfl
    refine xX8_dearest_11 ⟨_, rfl, _, rfl, ?_⟩
    rw [hn, if_neg (fun q => absurd ((n_lt (by omega) (by omega)).mp q) (by omega))]
    refine xm_pi_i ?_
    have hh := H A1 F1 s1
    rw [← (dr_eq n (fun q hq => r1.2.2.1 q (by omega))).2] at hh
    exact hh
/-- how many of f are above 0 -/
def posC (f : Nat → Int32) : Nat → Nat
  | 0 => 0
  | m + 1 => posC f m + (if 0 < f m then 1 else 0)
theorem posC_eq {f s : Nat → Int32} : ∀ n, (∀ q, q < n → f q = s q) → posC f n = posC s n
  | 0, _ => rfl
  | n + 1, h => by show posC f n + _ = posC s n + _; rw [posC_eq n (fun q hq => h q (by omega)), h n (by omega)]
theorem c_howMany (hK : 7 < K) (hN : NowOk A F tc n y) (H : ∀ A' F', Sc A F A' F' → g (Int32.ofNat (posC (sAs tc (A 2) n y (earsOf (A 2) n)) n)) (HP A' L F')) : xm_Call K sX8_howManyAssessed 8 [.ref 0] (HP A L F) (xm_pi g) := by
  have hn8 := hN.1.2.2.1
  refine eX8_howManyAssessed (K := 7) hK ⟨_, rfl⟩ ⟨_, rfl, _, rfl, c_reckonN (by omega) hN (fun A1 F1 s1 r1 => ?_)⟩
  have hn : F1 1 1 = Int32.ofNat n := (s1.now hN).1.2.1
  refine xm_for (n := n) (Q := fun p h => xm_L 7 sX8_howManyAssessed kX8_howManyAssessed 9 [some (.ref 0), some (.int (Int32.ofNat (posC (A1 11) p))), some (.int (Int32.ofNat p))] [] h (xm_pi g)) (fun _ h => h = HP A1 L F1) ?_ ?_ 0 _ (Nat.zero_le _) rfl
  · rintro p h hp rfl ih
    have hi := ih _ rfl
    refine xX8_howManyAssessed_9 ⟨_, rfl, _, rfl, ?_⟩
    rw [hn, if_pos ((n_lt (by omega) (by omega)).mpr hp)]
    refine ⟨_, rfl, _, rfl, _, ln_11 (by omega), ?_⟩
    have e1 : posC (A1 11) (p + 1) = posC (A1 11) p + (if 0 < A1 11 p then 1 else 0) := rfl
    rw [e1] at hi
    split
    · next hc => rw [if_pos hc] at hi; rw [n_succ, n_succ]; exact hi
    · next hc => rw [if_neg hc] at hi; rw [n_succ, show Int32.ofNat (posC (A1 11) p) + 0 = Int32.ofNat (posC (A1 11) p + 0) from n_add _ 0]; exact hi
  · rintro h rfl
    refine xX8_howManyAssessed_9 ⟨_, rfl, _, rfl, ?_⟩
    rw [hn, if_neg (fun q => absurd ((n_lt (by omega) (by omega)).mp q) (by omega))]
    refine xm_pi_i ?_
    have hh := H A1 F1 s1
    rw [← posC_eq n (fun q hq => r1.2.1 q (by omega))] at hh
    exact hh
end QRC
