section MDA
variable {A : Nat → Nat → Int32} {L : Nat → Nat → Int64} {F : Nat → Nat → Int32} {g : Int32 → xm_H → Prop} {gv : xm_H → Prop} {w n p k j y e m K : Nat} {x v z : Int32} {h : xm_H} {tc : (Nat → Int32) → Int32} {c : Nat → Int32}
/-! the reference: what it holds of a year that is gone through is a world c too -/
def MwP (A : Nat → Nat → Int32) (c : Nat → Int32) : Prop := ∀ p, p < 8 → A 45 p = c p ∧ A 68 p = c (8 + p) ∧ A 69 p = c (16 + p) ∧ A 66 p = c (24 + p) ∧ A 49 p = c (32 + p) ∧ A 67 p = c (40 + p) ∧ A 51 p = c (48 + p)
def Mw (A F : Nat → Nat → Int32) (n y : Nat) (c : Nat → Int32) : Prop :=
  (F 44 1 = Int32.ofNat n ∧ n ≤ 8 ∧ y < 200 ∧ F 44 37 = Int32.ofNat y ∧ F 44 38 = c 65 ∧ F 44 36 = c (56 + y % 8) ∧ A 53 2 = c 66) ∧ MwP A c ∧ ∀ p, p < n → c (40 + p) = 0 ∨ c (40 + p) = 1
/-- only what is reckoned with has changed -/
def Ms (A F A' F' : Nat → Nat → Int32) : Prop := Ag [64, 65, 70] A A' ∧ Ag [44] F F' ∧ ∀ k, k ≠ 39 → F' 44 k = F 44 k
theorem Ms.rf : Ms A F A F := ⟨Ag.rf, Ag.rf, fun _ _ => rfl⟩
theorem Ms.tr {B G A' F' : Nat → Nat → Int32} (h1 : Ms A F B G) (h2 : Ms B G A' F') : Ms A F A' F' := ⟨Ag.tr h1.1 h2.1, Ag.tr h1.2.1 h2.2.1, fun k hk => (h2.2.2 k hk).trans (h1.2.2 k hk)⟩
theorem Ms.mw {A' F' : Nat → Nat → Int32} (h : Ms A F A' F') (hw : Mw A F n y c) : Mw A' F' n y c := by
  obtain ⟨⟨a1, a2, a3, a4, a5, a6, a7⟩, a8, a9⟩ := hw
  refine ⟨⟨by rw [h.2.2 1 (by omega)]; exact a1, a2, a3, by rw [h.2.2 37 (by omega)]; exact a4, by rw [h.2.2 38 (by omega)]; exact a5, by rw [h.2.2 36 (by omega)]; exact a6, by rw [h.1 53 (by simp)]; exact a7⟩, fun p hp => ?_, a9⟩
  rw [h.1 45 (by simp), h.1 68 (by simp), h.1 69 (by simp), h.1 66 (by simp), h.1 49 (by simp), h.1 67 (by simp), h.1 51 (by simp)]
  exact a8 p hp
/-- the law as the reference has it -/
def TXm (A F : Nat → Nat → Int32) (tc : (Nat → Int32) → Int32) : Prop :=
  (F 44 30 = 0 ∧ tc = dflt) ∨ (F 44 30 ≠ 0 ∧ ∀ (A' : Nat → Nat → Int32) (L' : Nat → Nat → Int64) (F' : Nat → Nat → Int32) (g : Int32 → xm_H → Prop), (∀ k, k < 130 → A' 59 k = A 59 k) → (∀ k, k < 130 → A' 60 k = A 60 k) → A' 61 0 = A 61 0 → (∀ k, k < 61 → A' 62 k = A 62 k) → (∀ k, k < 61 → A' 63 k = A 63 k) → (∀ f, g (tc (cut6 (A' 64))) (HP (va_up A' 65 f) L' F')) → xm_Call 3 sX9_givesText 9 [.ref 44, .int 0] (HP A' L' F') (xm_pi g))
theorem TXm.to {A' F' : Nat → Nat → Int32} {S : List Nat} (h : TXm A F tc) (h1 : Ag S A A') (hS : 59 ∉ S ∧ 60 ∉ S ∧ 61 ∉ S ∧ 62 ∉ S ∧ 63 ∉ S) (h2 : F' 44 30 = F 44 30) : TXm A' F' tc := by
  rcases h with ⟨a, b⟩ | ⟨a, b⟩
  · exact Or.inl ⟨by rw [h2]; exact a, b⟩
  · exact Or.inr ⟨by rw [h2]; exact a, fun B M G g c1 c2 c3 c4 c5 c6 => b B M G g (fun k hk => (c1 k hk).trans (congrFun (h1 59 hS.1) k)) (fun k hk => (c2 k hk).trans (congrFun (h1 60 hS.2.1) k)) (c3.trans (congrFun (h1 61 hS.2.2.1) 0)) (fun k hk => (c4 k hk).trans (congrFun (h1 62 hS.2.2.2.1) k)) (fun k hk => (c5 k hk).trans (congrFun (h1 63 hS.2.2.2.2) k)) c6⟩
theorem m_says (hK : 0 < K) (hw : Mw A F n y c) (hp : p < 8) (H : g (if c (24 + p) = 1 ∨ c (24 + p) = 2 then 1 else 0) (HP A L F)) : xm_Call K sX9_says 9 [.ref 44, .int (Int32.ofNat p)] (HP A L F) (xm_pi g) := by
  have e : A 66 p = c (24 + p) := (hw.2.1 p hp).2.2.2.1
  refine eX9_says (K := 0) hK ⟨_, rfl⟩ ⟨_, rfl, _, ln_66 hp, ?_⟩
  rw [e]
  by_cases h1 : c (24 + p) = 1
  · rw [if_pos h1]; rw [if_pos (Or.inl h1)] at H; exact xm_pi_i H
  · rw [if_neg h1]
    refine ⟨_, rfl, _, ln_66 hp, ?_⟩
    rw [e]
    by_cases h2 : c (24 + p) = 2
    · rw [if_pos h2]; rw [if_pos (Or.inr h2)] at H; exact xm_pi_i H
    · rw [if_neg h2]; rw [if_neg (fun q => q.elim h1 h2)] at H; exact xm_pi_i H
theorem m_leaves (hK : 0 < K) (hw : Mw A F n y c) (hp : p < 8) (H : g (if c (24 + p) < 2 then 0 else 1) (HP A L F)) : xm_Call K sX9_leaves 9 [.ref 44, .int (Int32.ofNat p)] (HP A L F) (xm_pi g) := by
  have e : A 66 p = c (24 + p) := (hw.2.1 p hp).2.2.2.1
  refine eX9_leaves (K := 0) hK ⟨_, rfl⟩ ⟨_, rfl, _, ln_66 hp, ?_⟩
  rw [e]
  split
  · next hc => rw [if_pos hc] at H; exact xm_pi_i H
  · next hc => rw [if_neg hc] at H; exact xm_pi_i H
/-- how many but p say it -/
def nOth (hb : Nat → Int32) (p : Nat) : Nat → Nat
  | 0 => 0
  | n + 1 => nOth hb p n + (if ¬ n = p ∧ (hb n = 1 ∨ hb n = 2) then 1 else 0)
theorem nOth_say (hb : Nat → Int32) (p : Nat) : ∀ n, nSay hb n = nOth hb p n + (if p < n ∧ (hb p = 1 ∨ hb p = 2) then 1 else 0)
  | 0 => by simp [nSay, nOth]
  | n + 1 => by
    have ih := nOth_say hb p n
    show nSay hb n + (if hb n = 1 ∨ hb n = 2 then 1 else 0) = nOth hb p n + (if ¬ n = p ∧ (hb n = 1 ∨ hb n = 2) then 1 else 0) + _
    by_cases hnp : n = p
    · subst hnp
      have h1 : ¬ n < n := by omega
      have h2 : n < n + 1 := by omega
      simp only [h1, false_and, if_false, not_true_eq_false, h2, true_and] at ih ⊢
      omega
    · have h3 : (p < n + 1) ↔ p < n := by omega
      simp only [h3, hnp, not_false_eq_true, true_and]
      omega
theorem m_others (hK : 1 < K) (hw : Mw A F n y c) (hp : p < n) (H : g (Int32.ofNat (nOth (hbt c) p n)) (HP A L F)) : xm_Call K sX9_othersSay 9 [.ref 44, .int (Int32.ofNat p)] (HP A L F) (xm_pi g) := by
  have hn8 := hw.1.2.1
  refine eX9_othersSay (K := 1) hK ⟨_, rfl⟩ ?_
  refine xm_for (n := n) (Q := fun q h => xm_L 1 sX9_othersSay kX9_othersSay 4 [some (.ref 44), some (.int (Int32.ofNat p)), some (.int (Int32.ofNat (nOth (hbt c) p q))), some (.int (Int32.ofNat q))] [] h (xm_pi g)) (fun _ h => h = HP A L F) ?_ ?_ 0 _ (Nat.zero_le _) rfl
  · rintro q h hq rfl ih
    have hi := ih _ rfl
    refine xX9_othersSay_4 ⟨_, rfl, ?_⟩
    rw [hw.1.1, if_pos ((n_lt (by omega) (by omega)).mpr hq)]
    have e1 : nOth (hbt c) p (q + 1) = nOth (hbt c) p q + (if ¬ q = p ∧ (hbt c q = 1 ∨ hbt c q = 2) then 1 else 0) := rfl
    rw [e1] at hi
    by_cases hqp : q = p
    · rw [if_pos (by rw [hqp])]
      rw [if_neg (fun z => z.1 hqp)] at hi
      rw [n_succ]; exact hi
    · rw [if_neg (fun z => hqp ((n_eq (by omega) (by omega)).mp z))]
      refine m_says (by omega) hw (by omega) ?_
      by_cases hs : c (24 + q) = 1 ∨ c (24 + q) = 2
      · rw [if_pos hs, if_neg (by decide)]
        rw [if_pos ⟨hqp, hs⟩] at hi
        rw [n_succ, n_succ]; exact hi
      · rw [if_neg hs, if_pos rfl]
        rw [if_neg (fun z => hs z.2)] at hi
        rw [n_succ]; exact hi
  · rintro h rfl
    refine xX9_othersSay_4 ⟨_, rfl, ?_⟩
    rw [hw.1.1, if_neg (fun q => absurd ((n_lt (by omega) (by omega)).mp q) (by omega))]
    exact xm_pi_i H
theorem m_leaving (hK : 1 < K) (hw : Mw A F n y c) (H : g (Int32.ofNat (nGo (hbt c) n)) (HP A L F)) : xm_Call K sX9_leaving 9 [.ref 44] (HP A L F) (xm_pi g) := by
  have hn8 := hw.1.2.1
  refine eX9_leaving (K := 1) hK ⟨_, rfl⟩ ?_
  refine xm_for (n := n) (Q := fun q h => xm_L 1 sX9_leaving kX9_leaving 4 [some (.ref 44), some (.int (Int32.ofNat (nGo (hbt c) q))), some (.int (Int32.ofNat q))] [] h (xm_pi g)) (fun _ h => h = HP A L F) ?_ ?_ 0 _ (Nat.zero_le _) rfl
  · rintro q h hq rfl ih
    have hi := ih _ rfl
    refine xX9_leaving_4 ⟨_, rfl, ?_⟩
    rw [hw.1.1, if_pos ((n_lt (by omega) (by omega)).mpr hq)]
    have e1 : nGo (hbt c) (q + 1) = nGo (hbt c) q + (if hbt c q < 2 then 0 else 1) := rfl
    rw [e1] at hi
    refine m_leaves (by omega) hw (by omega) ?_
    by_cases hs : c (24 + q) < 2
    · rw [if_pos hs, if_pos rfl]
      rw [if_pos (show hbt c q < 2 from hs)] at hi
      rw [n_succ]; exact hi
    · rw [if_neg hs, if_neg (by decide)]
      rw [if_neg (show ¬ hbt c q < 2 from hs)] at hi
      rw [n_succ, n_succ]; exact hi
  · rintro h rfl
    refine xX9_leaving_4 ⟨_, rfl, ?_⟩
    rw [hw.1.1, if_neg (fun q => absurd ((n_lt (by omega) (by omega)).mp q) (by omega))]
    exact xm_pi_i H
theorem clip_alt (x : Int32) : clip x = if x < 0 then 0 else if 20 < x then 20 else x := by
  unfold clip
  have t0 : (0 : Int32).toInt = 0 := rfl
  have t20 : (20 : Int32).toInt = 20 := rfl
  by_cases h1 : x < 20
  · rw [if_pos h1]
    rw [Int32.lt_iff_toInt_lt] at h1
    by_cases h0 : 0 < x
    · rw [if_pos h0]
      rw [Int32.lt_iff_toInt_lt] at h0
      rw [if_neg (by rw [Int32.lt_iff_toInt_lt]; omega), if_neg (by rw [Int32.lt_iff_toInt_lt]; omega)]
    · rw [if_neg h0]
      rw [Int32.lt_iff_toInt_lt] at h0
      by_cases h2 : x < 0
      · rw [if_pos h2]
      · rw [if_neg h2, if_neg (by rw [Int32.lt_iff_toInt_lt]; omega)]
        rw [Int32.lt_iff_toInt_lt] at h2
        exact (Int32.toInt_inj.mp (by omega)).symm
  · rw [if_neg h1, if_pos (by decide)]
    rw [Int32.lt_iff_toInt_lt] at h1
    rw [if_neg (by rw [Int32.lt_iff_toInt_lt]; omega)]
    by_cases h3 : 20 < x
    · rw [if_pos h3]
    · rw [if_neg h3]
      rw [Int32.lt_iff_toInt_lt] at h3
      exact Int32.toInt_inj.mp (by omega)
set_option maxHeartbeats 1000000 in
theorem m_countsBy (hK : 3 < K) (hw : Mw A F n y c) (hp : p < n) (ht : TXm A F tc) (H : ∀ A', Ag [64, 65] A A' → g (cntW tc c n y p) (HP A' L F)) : xm_Call K sX9_countsBy 9 [.ref 44, .int (Int32.ofNat p)] (HP A L F) (xm_pi g) := by
  have hn8 := hw.1.2.1
  obtain ⟨b0, b1, b2, b3, b4, b5, b6⟩ := hw.2.1 p (by omega)
  have fin : ∀ (v : Int32) (A' : Nat → Nat → Int32), Ag [64, 65] A A' → clip v = cntW tc c n y p → (if v < 0 then xm_pi g (some (.int (0 : Int32))) (HP A' L F) else (if (20 : Int32) < v then xm_pi g (some (.int (20 : Int32))) (HP A' L F) else xm_pi g (some (.int v)) (HP A' L F))) := by
    intro v A' hA' hv
    have hh := H A' hA'
    rw [← hv, clip_alt] at hh
    split
    · next h1 => rw [if_pos h1] at hh; exact xm_pi_i hh
    · next h1 =>
      rw [if_neg h1] at hh
      split
      · next h2 => rw [if_pos h2] at hh; exact xm_pi_i hh
      · next h2 => rw [if_neg h2] at hh; exact xm_pi_i hh
  refine eX9_countsBy (K := 3) hK ⟨_, rfl⟩ ⟨_, rfl, _, ln_49 (by omega), _, rfl, _, ln_45 (by omega), by decide, _, rfl, ?_⟩
  rcases ht with ⟨t1, t2⟩ | ⟨t1, t2⟩
  · rw [if_pos t1]
    refine fin _ A Ag.rf ?_
    rw [b4, b0, cntW, t2]; rfl
  · rw [if_neg t1]
    refine ⟨_, rfl, _, rfl, _, ln_49 (by omega), _, sn_64 (j := 0) (by omega), _, rfl, _, rfl, _, ln_45 (by omega), _, sn_64 (j := 1) (by omega), _, rfl, _, rfl, _, ln_69 (by omega), _, sn_64 (j := 2) (by omega), _, rfl, ?_⟩
    have hag : ∀ f, Ms A F (va_up A 64 f) F := fun f => ⟨Ag.up Ag.rf (by simp), Ag.rf, fun _ _ => rfl⟩
    simp only [u_eq, up2]
    refine m_others (n := n) (y := y) (c := c) (by omega) ((hag _).mw hw) hp ⟨_, sn_64 (j := 3) (by omega), _, rfl, _, rfl, _, sn_64 (j := 4) (by omega), _, rfl, ?_⟩
    simp only [u_eq, up2]
    refine m_leaving (n := n) (y := y) (c := c) (by omega) ((hag _).mw hw) ⟨_, sn_64 (j := 5) (by omega), ?_⟩
    simp only [u_eq, up2]
    refine t2 _ L F _ (fun _ _ => rfl) (fun _ _ => rfl) rfl (fun _ _ => rfl) (fun _ _ => rfl) (fun f => ?_)
    refine fin _ _ (Ag.up (Ag.up Ag.rf (by simp)) (by simp)) ?_
    rw [u_eq, cut6_upd, cntW]
    congr 2
    rw [u_ne (by omega), u_ne (by omega), b4, b0, b2, hw.1.2.2.2.2.2.1]
    have hs := nOth_say (hbt c) p n
    have e3 : (if c (24 + p) = 1 ∨ c (24 + p) = 2 then Int32.ofNat (nSay (hbt c) n) - 1 else Int32.ofNat (nSay (hbt c) n)) = Int32.ofNat (nOth (hbt c) p n) := by
      by_cases hq : c (24 + p) = 1 ∨ c (24 + p) = 2
      · rw [if_pos hq, hs, if_pos ⟨hp, hq⟩, n_pred]
      · rw [if_neg hq, hs, if_neg (fun z => hq z.2), Nat.add_zero]
    rw [e3]
end MDA
