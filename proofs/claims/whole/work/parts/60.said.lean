section SAY
variable {A : Nat → Nat → Int32} {L : Nat → Nat → Int64} {F : Nat → Nat → Int32} {g : Int32 → xm_H → Prop} {gv : xm_H → Prop} {w n p k j y e m K : Nat} {x v z : Int32} {h : xm_H} {tc : (Nat → Int32) → Int32} {c : Nat → Int32}
theorem n_bc : ∀ e, e < 256 → (((((((((Int32.ofNat e) - ((((Int32.toUInt32 (Int32.ofNat e)) >>> ((Int32.toUInt32 (1 : Int32)) &&& Int32.toUInt32 31)).toInt32) &&& (1431655765 : Int32))) &&& (858993459 : Int32)) + ((((Int32.toUInt32 ((Int32.ofNat e) - ((((Int32.toUInt32 (Int32.ofNat e)) >>> ((Int32.toUInt32 (1 : Int32)) &&& Int32.toUInt32 31)).toInt32) &&& (1431655765 : Int32)))) >>> ((Int32.toUInt32 (2 : Int32)) &&& Int32.toUInt32 31)).toInt32) &&& (858993459 : Int32))) + (((Int32.toUInt32 ((((Int32.ofNat e) - ((((Int32.toUInt32 (Int32.ofNat e)) >>> ((Int32.toUInt32 (1 : Int32)) &&& Int32.toUInt32 31)).toInt32) &&& (1431655765 : Int32))) &&& (858993459 : Int32)) + ((((Int32.toUInt32 ((Int32.ofNat e) - ((((Int32.toUInt32 (Int32.ofNat e)) >>> ((Int32.toUInt32 (1 : Int32)) &&& Int32.toUInt32 31)).toInt32) &&& (1431655765 : Int32)))) >>> ((Int32.toUInt32 (2 : Int32)) &&& Int32.toUInt32 31)).toInt32) &&& (858993459 : Int32)))) >>> ((Int32.toUInt32 (4 : Int32)) &&& Int32.toUInt32 31)).toInt32)) &&& (252645135 : Int32)) + (((Int32.toUInt32 ((((((Int32.ofNat e) - ((((Int32.toUInt32 (Int32.ofNat e)) >>> ((Int32.toUInt32 (1 : Int32)) &&& Int32.toUInt32 31)).toInt32) &&& (1431655765 : Int32))) &&& (858993459 : Int32)) + ((((Int32.toUInt32 ((Int32.ofNat e) - ((((Int32.toUInt32 (Int32.ofNat e)) >>> ((Int32.toUInt32 (1 : Int32)) &&& Int32.toUInt32 31)).toInt32) &&& (1431655765 : Int32)))) >>> ((Int32.toUInt32 (2 : Int32)) &&& Int32.toUInt32 31)).toInt32) &&& (858993459 : Int32))) + (((Int32.toUInt32 ((((Int32.ofNat e) - ((((Int32.toUInt32 (Int32.ofNat e)) >>> ((Int32.toUInt32 (1 : Int32)) &&& Int32.toUInt32 31)).toInt32) &&& (1431655765 : Int32))) &&& (858993459 : Int32)) + ((((Int32.toUInt32 ((Int32.ofNat e) - ((((Int32.toUInt32 (Int32.ofNat e)) >>> ((Int32.toUInt32 (1 : Int32)) &&& Int32.toUInt32 31)).toInt32) &&& (1431655765 : Int32)))) >>> ((Int32.toUInt32 (2 : Int32)) &&& Int32.toUInt32 31)).toInt32) &&& (858993459 : Int32)))) >>> ((Int32.toUInt32 (4 : Int32)) &&& Int32.toUInt32 31)).toInt32)) &&& (252645135 : Int32))) >>> ((Int32.toUInt32 (8 : Int32)) &&& Int32.toUInt32 31)).toInt32)) + (((Int32.toUInt32 (((((((Int32.ofNat e) - ((((Int32.toUInt32 (Int32.ofNat e)) >>> ((Int32.toUInt32 (1 : Int32)) &&& Int32.toUInt32 31)).toInt32) &&& (1431655765 : Int32))) &&& (858993459 : Int32)) + ((((Int32.toUInt32 ((Int32.ofNat e) - ((((Int32.toUInt32 (Int32.ofNat e)) >>> ((Int32.toUInt32 (1 : Int32)) &&& Int32.toUInt32 31)).toInt32) &&& (1431655765 : Int32)))) >>> ((Int32.toUInt32 (2 : Int32)) &&& Int32.toUInt32 31)).toInt32) &&& (858993459 : Int32))) + (((Int32.toUInt32 ((((Int32.ofNat e) - ((((Int32.toUInt32 (Int32.ofNat e)) >>> ((Int32.toUInt32 (1 : Int32)) &&& Int32.toUInt32 31)).toInt32) &&& (1431655765 : Int32))) &&& (858993459 : Int32)) + ((((Int32.toUInt32 ((Int32.ofNat e) - ((((Int32.toUInt32 (Int32.ofNat e)) >>> ((Int32.toUInt32 (1 : Int32)) &&& Int32.toUInt32 31)).toInt32) &&& (1431655765 : Int32)))) >>> ((Int32.toUInt32 (2 : Int32)) &&& Int32.toUInt32 31)).toInt32) &&& (858993459 : Int32)))) >>> ((Int32.toUInt32 (4 : Int32)) &&& Int32.toUInt32 31)).toInt32)) &&& (252645135 : Int32)) + (((Int32.toUInt32 ((((((Int32.ofNat e) - ((((Int32.toUInt32 (Int32.ofNat e)) >>> ((Int32.toUInt32 (1 : Int32)) &&& Int32.toUInt32 31)).toInt32) &&& (1431655765 : Int32))) &&& (858993459 : Int32)) + ((((Int32.toUInt32 ((Int32.ofNat e) - ((((Int32.toUInt32 (Int32.ofNat e)) >>> ((Int32.toUInt32 (1 : Int32)) &&& Int32.toUInt32 31)).toInt32) &&& (1431655765 : Int32)))) >>> ((Int32.toUInt32 (2 : Int32)) &&& Int32.toUInt32 31)).toInt32) &&& (858993459 : Int32))) + (((Int32.toUInt32 ((((Int32.ofNat e) - ((((Int32.toUInt32 (Int32.ofNat e)) >>> ((Int32.toUInt32 (1 : Int32)) &&& Int32.toUInt32 31)).toInt32) &&& (1431655765 : Int32))) &&& (858993459 : Int32)) + ((((Int32.toUInt32 ((Int32.ofNat e) - ((((Int32.toUInt32 (Int32.ofNat e)) >>> ((Int32.toUInt32 (1 : Int32)) &&& Int32.toUInt32 31)).toInt32) &&& (1431655765 : Int32)))) >>> ((Int32.toUInt32 (2 : Int32)) &&& Int32.toUInt32 31)).toInt32) &&& (858993459 : Int32)))) >>> ((Int32.toUInt32 (4 : Int32)) &&& Int32.toUInt32 31)).toInt32)) &&& (252645135 : Int32))) >>> ((Int32.toUInt32 (8 : Int32)) &&& Int32.toUInt32 31)).toInt32))) >>> ((Int32.toUInt32 (16 : Int32)) &&& Int32.toUInt32 31)).toInt32)) &&& (63 : Int32)) = Int32.ofNat (pCnt e 8) := by decide +kernel
theorem c_bitCount (hK : 0 < K) (he : e < 256) (H : g (Int32.ofNat (pCnt e 8)) h) : xm_Call K sJ6_bitCount_0f7a4 99 [.int (Int32.ofNat e)] h (xm_pi g) := by
  refine eJ6_bitCount_0f7a4 (K := 0) hK (xm_pi_i ?_)
  have hb := n_bc e he
  rw [hb]
  exact H
/-! pairs alike -/
def sN (f : Nat → Nat) : Nat → Nat
  | 0 => 0
  | m + 1 => sN f m + f m
theorem sN_eq {f t : Nat → Nat} : ∀ m, (∀ q, q < m → f q = t q) → sN f m = sN t m
  | 0, _ => rfl
  | m + 1, h => by show sN f m + f m = sN t m + t m; rw [sN_eq m (fun q hq => h q (by omega)), h m (by omega)]
theorem sN_add {f t : Nat → Nat} : ∀ m, sN (fun q => f q + t q) m = sN f m + sN t m
  | 0 => rfl
  | m + 1 => by show sN (fun q => f q + t q) m + (f m + t m) = sN f m + f m + (sN t m + t m); rw [sN_add m]; omega
def al1 (s : Nat → Int32) (i j : Nat) : Nat := if s i = s j ∧ 0 < s i then 1 else 0
theorem al1_sy (s : Nat → Int32) (i j : Nat) : al1 s i j = al1 s j i := by
  unfold al1
  by_cases h : s i = s j
  · rw [h]
  · rw [if_neg (fun q => h q.1), if_neg (fun q => h q.1.symm)]
def alC (s : Nat → Int32) (n : Nat) : Nat → Nat := sN (fun i => sN (fun k => al1 s i (i + 1 + k)) (n - 1 - i))
def alM (s : Nat → Int32) : Nat → Nat := sN (fun i => sN (fun r => al1 s i r) i)
theorem alC_M (s : Nat → Int32) : ∀ n, alC s n n = alM s n
  | 0 => rfl
  | n + 1 => by
    have h1 : alC s (n + 1) (n + 1) = sN (fun i => sN (fun k => al1 s i (i + 1 + k)) (n - 1 - i) + al1 s i n) n + 0 := by
      show sN (fun i => sN (fun k => al1 s i (i + 1 + k)) (n + 1 - 1 - i)) n + sN (fun k => al1 s n (n + 1 + k)) (n + 1 - 1 - n) = _
      rw [show n + 1 - 1 - n = 0 by omega]
      refine congrArg (· + 0) (sN_eq n (fun q hq => ?_))
      rw [show n + 1 - 1 - q = (n - 1 - q) + 1 by omega]
      show _ + al1 s q (q + 1 + (n - 1 - q)) = _
      rw [show q + 1 + (n - 1 - q) = n by omega]
    rw [h1, sN_add]
    show alC s n n + sN (fun i => al1 s i n) n + 0 = alM s n + sN (fun r => al1 s n r) n
    rw [alC_M s n, sN_eq n (fun q _ => al1_sy s q n), Nat.add_zero]
theorem al_eq {s t : Nat → Int32} (h : ∀ q, q < n → s q = t q) : alM s n = alM t n := by
  unfold alM
  refine sN_eq n (fun i hi => sN_eq i (fun r hr => ?_))
  unfold al1
  rw [h i hi, h r (by omega)]
theorem c_alike (hK : 7 < K) (hN : NowOk A F tc n y) (H : ∀ A' F', Sc A F A' F' → g (Int32.ofNat (alM (sSh tc (A 2) n y (earsOf (A 2) n)) n)) (HP A' L F')) : xm_Call K sX8_alike 8 [.ref 0] (HP A L F) (xm_pi g) := by
  have hn8 := hN.1.2.2.1
  refine eX8_alike (K := 7) hK ⟨_, rfl⟩ ⟨_, rfl, _, rfl, c_reckonN (by omega) hN (fun A1 F1 s1 r1 => ?_)⟩
  have hn : F1 1 1 = Int32.ofNat n := (s1.now hN).1.2.1
  refine xm_for (n := n) (Q := fun p h => xm_L 7 sX8_alike kX8_alike 9 [some (.ref 0), some (.int (Int32.ofNat (alC (A1 12) n p))), some (.int (Int32.ofNat p)), none, none] [] h (xm_pi g)) (fun _ h => h = HP A1 L F1) ?_ ?_ 0 _ (Nat.zero_le _) rfl
  · rintro p h hp rfl ih
    have hi := ih _ rfl
    refine xX8_alike_9 ⟨_, rfl, _, rfl, ?_⟩
    rw [hn, if_pos ((n_lt (by omega) (by omega)).mpr hp), n_succ]
    have key := xm_for (n := n - 1 - p) (Q := fun r h => xm_L 7 sX8_alike kX8_alike 18 [some (.ref 0), some (.int (Int32.ofNat (alC (A1 12) n p + sN (fun k => al1 (A1 12) p (p + 1 + k)) r))), some (.int (Int32.ofNat p)), some (.int (Int32.ofNat (p + 1 + r))), none] [] h (xm_pi g)) (fun _ h => h = HP A1 L F1) ?_ ?_ 0 _ (Nat.zero_le _) rfl
    · exact key
    · rintro r h hr rfl ih2
      have hi2 := ih2 _ rfl
      have e1 : alC (A1 12) n p + sN (fun k => al1 (A1 12) p (p + 1 + k)) (r + 1) = alC (A1 12) n p + sN (fun k => al1 (A1 12) p (p + 1 + k)) r + al1 (A1 12) p (p + 1 + r) := (Nat.add_assoc _ _ _).symm
      rw [e1] at hi2
      unfold al1 at hi2
      refine xX8_alike_18 ⟨_, rfl, _, rfl, ?_⟩
      rw [hn, if_pos ((n_lt (by omega) (by omega)).mpr (by omega))]
      refine ⟨_, rfl, _, rfl, _, ln_12 (by omega), _, rfl, _, rfl, _, ln_12 (by omega), ?_⟩
      rw [n_succ, n_succ, Int32.add_zero]
      by_cases h1 : A1 12 p = A1 12 (p + 1 + r)
      · rw [if_pos h1]
        refine ⟨_, rfl, _, rfl, _, ln_12 (by omega), ?_⟩
        by_cases h2 : 0 < A1 12 p
        · rw [if_pos h2]; rw [if_pos ⟨h1, h2⟩] at hi2; exact hi2
        · rw [if_neg h2]; rw [if_neg (fun q => h2 q.2)] at hi2; exact hi2
      · rw [if_neg h1]; rw [if_neg (fun q => h1 q.1)] at hi2; exact hi2
    · rintro h rfl
      refine xX8_alike_18 ⟨_, rfl, _, rfl, ?_⟩
      rw [hn, if_neg (n_ge (by omega) (by omega) (by omega)), n_succ]
      exact hi
  · rintro h rfl
    refine xX8_alike_9 ⟨_, rfl, _, rfl, ?_⟩
    rw [hn, if_neg (n_ge (by omega) (by omega) (Nat.le_refl _))]
    refine xm_pi_i ?_
    rw [alC_M, al_eq (fun q hq => r1.2.2.1 q (by omega))]
    exact H A1 F1 s1
theorem m_alike (hK : 2 < K) (hw : Mw A F n y c) (hr : MsR tc c n y A F) (H : g (Int32.ofNat (alM (sSh tc c n y (earsOf c n)) n)) (HP A L F)) : xm_Call K sX9_alike 9 [.ref 44] (HP A L F) (xm_pi g) := by
  have hn8 := hw.1.2.1
  refine eX9_alike (K := 2) hK ⟨_, rfl⟩ ?_
  refine xm_for (n := n) (Q := fun p h => xm_L 2 sX9_alike kX9_alike 4 [some (.ref 44), some (.int (Int32.ofNat (alM (sSh tc c n y (earsOf c n)) p))), some (.int (Int32.ofNat p)), none] [] h (xm_pi g)) (fun _ h => h = HP A L F) ?_ ?_ 0 _ (Nat.zero_le _) rfl
  · rintro p h hp rfl ih
    have hi := ih _ rfl
    refine xX9_alike_4 ⟨_, rfl, ?_⟩
    rw [hw.1.1, if_pos ((n_lt (by omega) (by omega)).mpr hp)]
    have key := xm_for (n := p) (Q := fun r h => xm_L 2 sX9_alike kX9_alike 10 [some (.ref 44), some (.int (Int32.ofNat (alM (sSh tc c n y (earsOf c n)) p + sN (fun r => al1 (sSh tc c n y (earsOf c n)) p r) r))), some (.int (Int32.ofNat p)), some (.int (Int32.ofNat r))] [] h (xm_pi g)) (fun _ h => h = HP A L F) ?_ ?_ 0 _ (Nat.zero_le _) rfl
    · exact key
    · rintro r h hr2 rfl ih2
      have hi2 := ih2 _ rfl
      have e1 : alM (sSh tc c n y (earsOf c n)) p + sN (fun r => al1 (sSh tc c n y (earsOf c n)) p r) (r + 1) = alM (sSh tc c n y (earsOf c n)) p + sN (fun r => al1 (sSh tc c n y (earsOf c n)) p r) r + al1 (sSh tc c n y (earsOf c n)) p r := (Nat.add_assoc _ _ _).symm
      rw [e1] at hi2
      unfold al1 at hi2
      refine xX9_alike_10 ?_
      rw [if_pos ((n_lt (by omega) (by omega)).mpr (by omega))]
      refine m_shareOf (tc := tc) (n := n) (y := y) (c := c) (by omega) hw hr hp ?_
      rw [n_succ, n_succ]
      by_cases h2 : 0 < sSh tc c n y (earsOf c n) p
      · rw [if_pos h2]
        refine m_shareOf (tc := tc) (n := n) (y := y) (c := c) (by omega) hw hr hp ?_
        refine m_shareOf (tc := tc) (n := n) (y := y) (c := c) (by omega) hw hr (by omega) ?_
        by_cases h1 : sSh tc c n y (earsOf c n) p = sSh tc c n y (earsOf c n) r
        · rw [if_pos h1]; rw [if_pos ⟨h1, h2⟩] at hi2; exact hi2
        · rw [if_neg h1]; rw [if_neg (fun q => h1 q.1)] at hi2; exact hi2
      · rw [if_neg h2]; rw [if_neg (fun q => h2 q.2)] at hi2; exact hi2
    · rintro h rfl
      refine xX9_alike_10 ?_
      rw [if_neg (n_ge (by omega) (by omega) (Nat.le_refl _)), n_succ]
      exact hi
  · rintro h rfl
    refine xX9_alike_4 ⟨_, rfl, ?_⟩
    rw [hw.1.1, if_neg (n_ge (by omega) (by omega) (Nat.le_refl _))]
    exact xm_pi_i H
/-! the least that must fall silent -/
def slt (c : Nat → Int32) (e : Nat) : Nat → Nat → Int32
  | 0 => c
  | m + 1 => if e.testBit m = true then upd (slt c e m) (24 + m) 0 else slt c e m
theorem slt_at (hk : k < 24 ∨ 24 + n ≤ k) : ∀ m, m ≤ n → slt c e m k = c k
  | 0, _ => rfl
  | m + 1, hm => by
    show (if e.testBit m = true then upd (slt c e m) (24 + m) 0 else slt c e m) k = c k
    split
    · rw [p_ne (by omega)]; exact slt_at hk m (by omega)
    · exact slt_at hk m (by omega)
theorem slt_Zr (hz : Zr c) : ∀ m, m ≤ 8 → Zr (slt c e m)
  | 0, _ => hz
  | m + 1, hm => by
    show Zr (if e.testBit m = true then upd (slt c e m) (24 + m) 0 else slt c e m)
    split
    · exact (slt_Zr hz m (by omega)).up (by omega)
    · exact slt_Zr hz m (by omega)
theorem slt_all (he : ∀ q, q < n → e.testBit q = true) : ∀ m, m ≤ n → ∀ q, q < m → slt c e m (24 + q) = 0
  | 0, _, q, hq => absurd hq (by omega)
  | m + 1, hm, q, hq => by
    show (if e.testBit m = true then upd (slt c e m) (24 + m) 0 else slt c e m) (24 + q) = 0
    rw [if_pos (he m (by omega))]
    by_cases h : q = m
    · subst h; rw [p_eq]
    · rw [p_ne (by omega)]; exact slt_all he m (by omega) q (by omega)
def lsZ (tc : (Nat → Int32) → Int32) (c : Nat → Int32) (n y e : Nat) : Int32 := sTot tc (slt c e n) n y (earsOf (slt c e n) n)
def lsC (z : Nat → Int32) (n : Nat) : Nat → Nat
  | 0 => n
  | m + 1 => if pCnt m n < lsC z n m ∧ z m = 0 then pCnt m n else lsC z n m
def lsM (z : Nat → Int32) (n : Nat) : Nat → Int32
  | 0 => -2
  | m + 1 => if (lsM z n m < 0 ∨ Int32.ofNat (pCnt m n) < lsM z n m) ∧ z m = 0 then Int32.ofNat (pCnt m n) else lsM z n m
theorem lsC_le (zf : Nat → Int32) (n : Nat) : ∀ m, lsC zf n m ≤ n
  | 0 => Nat.le_refl _
  | m + 1 => by
    show (if pCnt m n < lsC zf n m ∧ zf m = 0 then pCnt m n else lsC zf n m) ≤ n
    have := lsC_le zf n m
    split
    · exact pCnt_le m n
    · exact this
theorem ls_rel (zf : Nat → Int32) (hn : n ≤ 8) : ∀ m, (lsM zf n m = -2 ∧ lsC zf n m = n ∧ ∀ q, q < m → ¬ zf q = 0) ∨ lsM zf n m = Int32.ofNat (lsC zf n m)
  | 0 => Or.inl ⟨rfl, rfl, fun q hq => absurd hq (by omega)⟩
  | m + 1 => by
    have hc := pCnt_le m n
    have hl := lsC_le zf n m
    have ih := ls_rel zf hn m
    show ((if (lsM zf n m < 0 ∨ Int32.ofNat (pCnt m n) < lsM zf n m) ∧ zf m = 0 then Int32.ofNat (pCnt m n) else lsM zf n m) = -2 ∧ (if pCnt m n < lsC zf n m ∧ zf m = 0 then pCnt m n else lsC zf n m) = n ∧ _) ∨ (if (lsM zf n m < 0 ∨ Int32.ofNat (pCnt m n) < lsM zf n m) ∧ zf m = 0 then Int32.ofNat (pCnt m n) else lsM zf n m) = Int32.ofNat (if pCnt m n < lsC zf n m ∧ zf m = 0 then pCnt m n else lsC zf n m)
    by_cases hz : zf m = 0
    · right
      rcases ih with ⟨a, b, d⟩ | a
      · rw [if_pos ⟨Or.inl (by rw [a]; decide), hz⟩, b]
        by_cases h1 : pCnt m n < n
        · rw [if_pos ⟨h1, hz⟩]
        · rw [if_neg (fun q => h1 q.1)]; congr 1; omega
      · rw [a]
        by_cases h1 : pCnt m n < lsC zf n m
        · rw [if_pos ⟨Or.inr ((n_lt (by omega) (by omega)).mpr h1), hz⟩, if_pos ⟨h1, hz⟩]
        · rw [if_neg, if_neg (fun q => h1 q.1)]
          rintro ⟨q | q, -⟩
          · exact xs_nn (by omega) q
          · exact h1 ((n_lt (by omega) (by omega)).mp q)
    · rw [if_neg (fun q => hz q.2), if_neg (fun q => hz q.2)]
      rcases ih with ⟨a, b, d⟩ | a
      · refine Or.inl ⟨a, b, fun q hq => ?_⟩
        by_cases hqm : q = m
        · subst hqm; exact hz
        · exact d q (by omega)
      · exact Or.inr a
theorem lsZ_all (hn : n ≤ 8) : lsZ tc c n y (2 ^ n - 1) = 0 := by
  unfold lsZ
  rw [sTot_n hn]
  have : ∀ m, m ≤ n → sumN (sAs tc (slt c (2 ^ n - 1) n) n y (earsOf (slt c (2 ^ n - 1) n) n)) m = 0 := by
    intro m
    induction m with
    | zero => intro _; rfl
    | succ m ih =>
      intro hm
      show sumN _ m + _ = 0
      rw [ih (by omega), sAs_in (by omega), slt_all (fun q hq => by rw [Nat.testBit_two_pow_sub_one]; simp [hq]) n (Nat.le_refl _) m (by omega), if_neg (by decide)]
      rfl
  exact this n (Nat.le_refl _)
theorem ls_end (hn : n ≤ 8) : lsM (lsZ tc c n y) n (2 ^ n) = Int32.ofNat (lsC (lsZ tc c n y) n (2 ^ n)) := by
  rcases ls_rel (lsZ tc c n y) hn (2 ^ n) with ⟨_, _, d⟩ | a
  · exact absurd (lsZ_all hn) (d (2 ^ n - 1) (by have := Nat.two_pow_pos n; omega))
  · exact a
theorem two8 (hn : n ≤ 8) : 2 ^ n ≤ 256 := Nat.le_trans (Nat.pow_le_pow_right (by omega) hn) (by decide)
/-- the world tried out on, with a set fallen silent -/
theorem c_thinkSilent (hK : 2 < K) (hN : NowOk A F tc n y) (he : e < 256) (H : ∀ A' F', ThI A F L (slt (A 2) e n) n y (HP A' L F') → gv (HP A' L F')) : xm_Call K sX8_thinkSilent 8 [.ref 0, .int (Int32.ofNat e)] (HP A L F) (xm_pv gv) := by
  have hn8 := hN.1.2.2.1
  refine eX8_thinkSilent (K := 2) hK ⟨_, rfl⟩ ⟨_, rfl, _, rfl, c_copyT (by omega) hN.2.2.1 hN.2.2.2 ?_⟩
  refine xm_for (n := n) (Q := fun p h => xm_L 2 sX8_thinkSilent kX8_thinkSilent 7 [some (.ref 0), some (.int (Int32.ofNat e)), some (.int (Int32.ofNat p))] [] h (xm_pv gv)) (fun p h => ThI A F L (slt (A 2) e p) n y h) ?_ ?_ 0 _ (Nat.zero_le _) (ThI.start hN)
  · rintro p h hp ⟨A1, F1, rfl, s1, e4, w1⟩ ih
    have hn : F1 1 1 = Int32.ofNat n := (s1.now hN).1.2.1
    refine xX8_thinkSilent_7 ⟨_, rfl, _, rfl, ?_⟩
    rw [hn, if_pos ((n_lt (by omega) (by omega)).mpr hp), n_succ]
    have e1 : slt (A 2) e (p + 1) = if e.testBit p = true then upd (slt (A 2) e p) (24 + p) 0 else slt (A 2) e p := rfl
    rw [e1] at ih
    by_cases hb : e.testBit p = true
    · rw [if_pos ((n_bit e he p (by omega)).mpr hb)]
      rw [if_pos hb] at ih
      refine ⟨_, rfl, c_set (k := 3) (by omega) w1.1 w1.2.1 hn8 hp (by omega) (ih _ ⟨_, _, rfl, s1.tr ⟨Ag.up Ag.rf (by simp), Ag.rf, ?_⟩, ?_, ?_⟩)⟩
      · show Zr (va_up A1 4 _ 4)
        rw [u_eq]; exact s1.2.2.up (by omega)
      · show va_up A1 4 _ 4 = _
        rw [u_eq]; show upd (A1 4) (24 + p) 0 = _; rw [e4]
      · obtain ⟨a1, a2, a3, a4, a5, a6⟩ := w1
        refine ⟨a1, a2, a3, a4, ?_, fun q hq => ?_⟩
        · rw [u_eq, p_ne (by omega)]; exact a5
        · rw [u_eq, p_ne (by omega)]; exact a6 q hq
    · rw [if_neg (fun q => hb ((n_bit e he p (by omega)).mp q))]
      rw [if_neg hb] at ih
      exact ih _ ⟨_, _, rfl, s1, e4, w1⟩
  · rintro h ⟨A1, F1, rfl, s1, e4, w1⟩
    have hn : F1 1 1 = Int32.ofNat n := (s1.now hN).1.2.1
    refine xX8_thinkSilent_7 ⟨_, rfl, _, rfl, ?_⟩
    rw [hn, if_neg (n_ge (by omega) (by omega) (Nat.le_refl _))]
    exact xm_pv_i (H A1 F1 ⟨_, _, rfl, s1, e4, w1⟩)
theorem c_reckonT (hK : 6 < K) (hN : NowOk A F tc n y) {y1 : Nat} (hI : ThI A F L c n y1 h) (H : ∀ A' F', ThI A F L c n y1 (HP A' L F') → RkR tc c n y1 (earsOf c n) A' F' → gv (HP A' L F')) : xm_Call K sX4_reckon 4 [.ref 5, .ref 3] h (xm_pv gv) := by
  obtain ⟨A1, F1, rfl, s1, e4, w1⟩ := hI
  have hN1 := s1.now hN
  refine c_reckon (tc := tc) (y := y1) hK w1 hN1.2.1 (fun A2 F2 a1 a2 a3 a4 => ?_)
  have e5 : A1 (3 + 1) = c := e4
  have e6 : A2 4 = A1 4 := a1 4 (by simp)
  rw [e5] at a4
  exact H A2 F2 ⟨A2, F2, rfl, s1.tr ⟨a1.mono (fun k hk => by simp at hk ⊢; omega), a2.mono (fun k hk => by simp at hk ⊢; omega), by rw [e6]; exact s1.2.2⟩, by rw [e6]; exact e4, w1.to a1 a2 (by simp) (by simp)⟩ a4
theorem c_leastSaid (hK : 7 < K) (hN : NowOk A F tc n y) (H : ∀ A' F', Sc A F A' F' → g (Int32.ofNat (lsC (lsZ tc (A 2) n y) n (2 ^ n))) (HP A' L F')) : xm_Call K sX8_leastSaid 8 [.ref 0] (HP A L F) (xm_pi g) := by
  have hn8 := hN.1.2.2.1
  have h28 := two8 hn8
  refine eX8_leastSaid (K := 7) hK ⟨_, rfl⟩ ⟨_, rfl, _, w_people (Or.inl rfl), ?_⟩
  rw [hN.1.2.1]
  refine xm_for (n := 2 ^ n) (Q := fun m h => xm_L 7 sX8_leastSaid kX8_leastSaid 6 [some (.ref 0), some (.int (Int32.ofNat (lsC (lsZ tc (A 2) n y) n m))), some (.int (Int32.ofNat m)), none] [] h (xm_pi g)) (fun _ h => ∃ A' F', h = HP A' L F' ∧ Sc A F A' F') ?_ ?_ 0 _ (Nat.zero_le _) ⟨A, F, rfl, Sc.rf hN.2.2.2⟩
  · rintro m h hm ⟨A1, F1, rfl, s1⟩ ih
    have hN1 := s1.now hN
    have e2 : A1 2 = A 2 := s1.1 2 (by simp)
    refine xX8_leastSaid_6 ⟨_, rfl, _, w_people (Or.inl rfl), ?_⟩
    rw [hN1.1.2.1, n_pow n hn8, if_pos ((n_lt (by omega) (by omega)).mpr hm)]
    refine c_bitCount (by omega) (by omega) ?_
    have hl := lsC_le (lsZ tc (A 2) n y) n m
    have hc := pCnt_le m n
    have e1 : lsC (lsZ tc (A 2) n y) n (m + 1) = if pCnt m n < lsC (lsZ tc (A 2) n y) n m ∧ lsZ tc (A 2) n y m = 0 then pCnt m n else lsC (lsZ tc (A 2) n y) n m := rfl
    rw [e1] at ih
    rw [pCnt_cut hm 8 hn8, n_succ]
    by_cases h1 : pCnt m n < lsC (lsZ tc (A 2) n y) n m
    · rw [if_pos ((n_lt (by omega) (by omega)).mpr h1)]
      refine c_thinkSilent (by omega) hN1 (by omega) (fun A2 F2 t1 => ⟨_, rfl, _, rfl, ?_⟩)
      refine c_reckonT (by omega) hN1 t1 (fun A3 F3 t2 r2 => ⟨_, rfl, _, rfl, ?_⟩)
      obtain ⟨B, G, hBG, s3, -⟩ := t2
      have hs := ih (HP A3 L F3) ⟨B, G, hBG, s1.tr s3⟩
      rw [r2.2.2.2.2.1, e2]
      show (if lsZ tc (A 2) n y m = 0 then _ else _)
      by_cases h2 : lsZ tc (A 2) n y m = 0
      · rw [if_pos h2]; rw [if_pos ⟨h1, h2⟩] at hs; exact hs
      · rw [if_neg h2]; rw [if_neg (fun q => h2 q.2)] at hs; exact hs
    · rw [if_neg (fun q => h1 ((n_lt (by omega) (by omega)).mp q))]
      have hs := ih (HP A1 L F1) ⟨A1, F1, rfl, s1⟩
      rw [if_neg (fun q => h1 q.1)] at hs
      exact hs
  · rintro h ⟨A1, F1, rfl, s1⟩
    have hN1 := s1.now hN
    refine xX8_leastSaid_6 ⟨_, rfl, _, w_people (Or.inl rfl), ?_⟩
    rw [hN1.1.2.1, n_pow n hn8, if_neg (n_ge (by omega) (by omega) (Nat.le_refl _))]
    exact xm_pi_i (H A1 F1 s1)
theorem m_leastSaid (hK : 5 < K) (hM : ModOk A F tc n y c) (H : ∀ A' F', Mq A F A' F' n → g (Int32.ofNat (lsC (lsZ tc c n y) n (2 ^ n))) (HP A' L F')) : xm_Call K sX9_leastSaid 9 [.ref 44] (HP A L F) (xm_pi g) := by
  have hn8 := hM.1.1.2.1
  have h28 := two8 hn8
  have hp2 := Nat.two_pow_pos n
  refine eX9_leastSaid (K := 5) hK ⟨_, rfl⟩ ?_
  refine xm_for (n := 2 ^ n) (Q := fun m h => xm_L 5 sX9_leastSaid kX9_leastSaid 4 [some (.ref 44), some (.int (lsM (lsZ tc c n y) n m)), some (.int (Int32.ofNat m)), none] [] h (xm_pi g)) (fun _ h => ∃ A' F', h = HP A' L F' ∧ Mq A F A' F' n) ?_ ?_ 0 _ (Nat.zero_le _) ⟨A, F, rfl, Mq.rf hM.1.2.2.2.2.2⟩
  · rintro m h hm ⟨A1, F1, rfl, q1⟩ ih
    have hM1 := q1.ok hM
    refine xX9_leastSaid_4 (eX9_everybody (K := 0) (by omega) ⟨_, rfl⟩ ⟨_, rfl, xm_pi_i ?_⟩)
    rw [hM1.1.1.1, n_evb n hn8, if_neg (n_ge (by omega) (by omega) (by omega))]
    have e1 : lsM (lsZ tc c n y) n (m + 1) = if (lsM (lsZ tc c n y) n m < 0 ∨ Int32.ofNat (pCnt m n) < lsM (lsZ tc c n y) n m) ∧ lsZ tc c n y m = 0 then Int32.ofNat (pCnt m n) else lsM (lsZ tc c n y) n m := rfl
    rw [e1] at ih
    have go : (lsM (lsZ tc c n y) n m < 0 ∨ Int32.ofNat (pCnt m n) < lsM (lsZ tc c n y) n m) → xm_Call 5 sX9_layNow 9 [.ref 44] (HP A1 L F1) (xm_pv fun h3 => xm_L 5 sX9_leastSaid kX9_leastSaid 19 [some (.ref 44), some (.int (lsM (lsZ tc c n y) n m)), some (.int (Int32.ofNat m)), some (.int (0 : Int32))] [] h3 (xm_pi g)) := by
      intro hlt
      refine m_layNow (by omega) hM1.1 (fun A2 F2 q2 _ w2 => ?_)
      refine xm_for (n := n) (Q := fun p h => xm_L 5 sX9_leastSaid kX9_leastSaid 19 [some (.ref 44), some (.int (lsM (lsZ tc c n y) n m)), some (.int (Int32.ofNat m)), some (.int (Int32.ofNat p))] [] h (xm_pi g)) (fun p h => ∃ A' F', h = HP A' L F' ∧ Mq A F A' F' n ∧ Mw A' F' n y (slt c m p)) ?_ ?_ 0 _ (Nat.zero_le _) ⟨A2, F2, rfl, q1.tr q2, w2⟩
      · rintro p h hp ⟨A3, F3, rfl, q3, w3⟩ ih2
        refine xX9_leastSaid_19 ⟨_, rfl, ?_⟩
        rw [w3.1.1, if_pos ((n_lt (by omega) (by omega)).mpr hp), n_succ]
        have e2 : slt c m (p + 1) = if m.testBit p = true then upd (slt c m p) (24 + p) 0 else slt c m p := rfl
        rw [e2] at ih2
        refine m_has (by omega) (by omega) (by omega) ?_
        by_cases hb : m.testBit p = true
        · rw [if_pos hb] at ih2 ⊢
          rw [if_neg (by decide)]
          exact ⟨_, rfl, _, sn_66 (by omega), ih2 _ ⟨_, _, rfl, ⟨Ag.up q3.1 (by simp), q3.2.1, q3.2.2.1, q3.2.2.2.hab hp⟩, mw_habit w3 hp⟩⟩
        · rw [if_neg hb] at ih2 ⊢
          rw [if_pos rfl]
          exact ih2 _ ⟨_, _, rfl, q3, w3⟩
      · rintro h ⟨A3, F3, rfl, q3, w3⟩
        refine xX9_leastSaid_19 ⟨_, rfl, ?_⟩
        rw [w3.1.1, if_neg (n_ge (by omega) (by omega) (Nat.le_refl _)), n_succ]
        refine m_assess (tc := tc) (by omega) w3 (q3.ok hM).2 (fun A4 F4 s4 r4 => ⟨_, rfl, ?_⟩)
        have hi := ih (HP A4 L F4) ⟨A4, F4, rfl, q3.tr (s4.mq q3.2.2.2)⟩
        rw [r4.2]
        show (if lsZ tc c n y m = 0 then _ else _)
        by_cases h2 : lsZ tc c n y m = 0
        · rw [if_pos h2]
          rw [if_pos ⟨hlt, h2⟩] at hi
          refine m_bitsOf (by omega) (by omega) ?_
          rw [pCnt_cut hm 8 hn8]
          exact hi
        · rw [if_neg h2]; rw [if_neg (fun q => h2 q.2)] at hi; exact hi
    by_cases h0 : lsM (lsZ tc c n y) n m < 0
    · rw [if_pos h0]; exact go (Or.inl h0)
    · rw [if_neg h0]
      refine m_bitsOf (by omega) (by omega) ?_
      rw [pCnt_cut hm 8 hn8]
      by_cases h1 : Int32.ofNat (pCnt m n) < lsM (lsZ tc c n y) n m
      · rw [if_pos h1]; exact go (Or.inr h1)
      · rw [if_neg h1, n_succ]
        have hi := ih (HP A1 L F1) ⟨A1, F1, rfl, q1⟩
        rw [if_neg (fun q => q.1.elim h0 h1)] at hi
        exact hi
  · rintro h ⟨A1, F1, rfl, q1⟩
    have hM1 := q1.ok hM
    refine xX9_leastSaid_4 (eX9_everybody (K := 0) (by omega) ⟨_, rfl⟩ ⟨_, rfl, xm_pi_i ?_⟩)
    rw [hM1.1.1.1, n_evb n hn8, if_pos ((n_lt (by omega) (by omega)).mpr (by omega)), ls_end hn8]
    exact xm_pi_i (H A1 F1 q1)
def sdS (tc : (Nat → Int32) → Int32) (c : Nat → Int32) (n y : Nat) (x : Int32) : Int32 := if x = 0 then Int32.ofNat (lsC (lsZ tc c n y) n (2 ^ n)) else if x = 1 then drI (sSh tc c n y (earsOf c n)) n else Int32.ofNat (alM (sSh tc c n y (earsOf c n)) n)
theorem q_said (hK : 8 < K) (hN : NowOk A F tc n y) (H : (x = 0 ∨ x = 1 ∨ x = 2) → ∀ A' F', Sc A F A' F' → g (sdS tc (A 2) n y x) (HP A' L F')) (H2 : ¬ (x = 0 ∨ x = 1 ∨ x = 2) → g (-1) (HP A L F)) : xm_Call K sX8_said 8 [.ref 0, .int x] (HP A L F) (xm_pi g) := by
  refine eX8_said (K := 8) hK ⟨_, rfl⟩ ?_
  unfold sdS at H
  by_cases h0 : x = 0
  · rw [if_pos h0]
    simp only [if_pos h0] at H
    exact c_leastSaid (by omega) hN (fun A' F' s => xm_pi_i (H (Or.inl h0) A' F' s))
  · rw [if_neg h0]
    simp only [if_neg h0] at H
    by_cases h1 : x = 1
    · rw [if_pos h1]
      simp only [if_pos h1] at H
      exact c_dearest (by omega) hN (fun A' F' s => xm_pi_i (H (Or.inr (Or.inl h1)) A' F' s))
    · rw [if_neg h1]
      simp only [if_neg h1] at H
      by_cases h2 : x = 2
      · rw [if_pos h2]
        exact c_alike (by omega) hN (fun A' F' s => xm_pi_i (H (Or.inr (Or.inr h2)) A' F' s))
      · rw [if_neg h2]
        exact xm_pi_i (H2 (fun q => q.elim h0 (fun q => q.elim h1 h2)))
theorem i_02 {x : Int32} (h0 : ¬ x < 0) (h2 : ¬ 2 < x) : x = 0 ∨ x = 1 ∨ x = 2 := by
  have t0 : (0 : Int32).toInt = 0 := rfl
  have t1 : (1 : Int32).toInt = 1 := rfl
  have t2 : (2 : Int32).toInt = 2 := rfl
  rw [Int32.lt_iff_toInt_lt] at h0 h2
  rcases (show x.toInt = 0 ∨ x.toInt = 1 ∨ x.toInt = 2 by omega) with h | h | h
  · exact Or.inl (Int32.toInt_inj.mp (h.trans t0.symm))
  · exact Or.inr (Or.inl (Int32.toInt_inj.mp (h.trans t1.symm)))
  · exact Or.inr (Or.inr (Int32.toInt_inj.mp (h.trans t2.symm)))
theorem r_said (hK : 6 < K) (hM : ModOk A F tc n y c) (H : (x = 0 ∨ x = 1 ∨ x = 2) → ∀ A' F', Mq A F A' F' n → g (sdS tc c n y x) (HP A' L F')) (H2 : ¬ (x = 0 ∨ x = 1 ∨ x = 2) → g (-1) (HP A L F)) : xm_Call K sX9_said 9 [.ref 44, .int x] (HP A L F) (xm_pi g) := by
  refine eX9_said (K := 6) hK ⟨_, rfl⟩ (m_in2 (by omega) (fun a1 a2 => ?_) (fun q => ?_))
  · rw [if_neg (by decide)]
    have hx := i_02 a1 a2
    unfold sdS at H
    by_cases h0 : x = 0
    · rw [if_pos h0]
      simp only [if_pos h0] at H
      exact m_leastSaid (by omega) hM (fun A' F' s => xm_pi_i (H (Or.inl h0) A' F' s))
    · rw [if_neg h0]
      simp only [if_neg h0] at H
      refine m_layNow (by omega) hM.1 (fun A1 F1 q1 _ w1 => m_assess (tc := tc) (n := n) (y := y) (c := c) (by omega) w1 (q1.ok hM).2 (fun A2 F2 s2 r2 => ?_))
      have q2 := q1.tr (s2.mq q1.2.2.2)
      by_cases h1 : x = 1
      · rw [if_pos h1]
        simp only [if_pos h1] at H
        exact m_dearest (by omega) (s2.mw w1) r2 (xm_pi_i (H hx A2 F2 q2))
      · rw [if_neg h1]
        simp only [if_neg h1] at H
        exact m_alike (by omega) (s2.mw w1) r2 (xm_pi_i (H hx A2 F2 q2))
  · rw [if_pos rfl]
    refine xm_pi_i (H2 (fun z => ?_))
    rcases z with rfl | rfl | rfl <;> exact absurd q (by decide)
end SAY
