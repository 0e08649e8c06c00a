section INV
variable {A : Nat → Nat → Int32} {L : Nat → Nat → Int64} {F : Nat → Nat → Int32} {g : Int32 → xm_H → Prop} {gv : xm_H → Prop} {w n p k j y e m r o a K nb : Nat} {x v z : Int32} {h : xm_H} {tc : (Nat → Int32) → Int32} {c : Nat → Int32}
/-! numbers by their kind o and place a -/
def lstI (o : Nat) : Int32 := if o = 9 then 1 else 0
def mstI (o : Nat) : Int32 := match o with
  | 0 => 9
  | 1 => 9999
  | 3 => 3
  | 4 => 4
  | 5 => 1
  | 8 => 199
  | _ => 99
def mayV (o : Nat) (v : Int32) : Prop := ¬ v < lstI o ∧ ¬ mstI o < v
def plc (n o a : Nat) : Prop := (o ≤ 6 ∧ a < n) ∨ (o = 7 ∧ a < 8) ∨ (8 ≤ o ∧ o ≤ 10 ∧ a = 0)
def cel (o a : Nat) : Nat := if o ≤ 7 then 8 * o + a else 56 + o
def mC (o : Nat) : Nat := if o ≤ 7 then 45 + o else 53
def mI (o a : Nat) : Nat := if o ≤ 7 then a else o - 8
def plx (o a : Nat) : Prop := (o ≤ 7 ∧ a < 8) ∨ (8 ≤ o ∧ o ≤ 10 ∧ a = 0)
theorem plc_x (hn : n ≤ 8) (h : plc n o a) : plx o a := by unfold plc at h; unfold plx; omega
theorem cel_lt (h : plx o a) : cel o a < 67 := by unfold plx at h; unfold cel; split <;> omega
theorem cel_inj {o' a' : Nat} (h : plx o a) (h' : plx o' a') (e : cel o a = cel o' a') : o = o' ∧ a = a' := by
  unfold plx at h h'
  unfold cel at e
  split at e <;> split at e <;> omega
theorem mC_inj {o' a' : Nat} (h : plx o a) (h' : plx o' a') (e1 : mC o = mC o') (e2 : mI o a = mI o' a') : o = o' ∧ a = a' := by
  unfold plx at h h'
  unfold mC at e1
  unfold mI at e2
  split at e1 <;> split at e1 <;> split at e2 <;> (try split at e2) <;> omega
theorem mC_ge : 45 ≤ mC o ∧ (o ≤ 10 → mC o ≤ 53) := by unfold mC; split <;> omega
/-- the world, in the class and in the reference -/
def Bs (A F : Nat → Nat → Int32) (n : Nat) : Prop := (F 1 1 = Int32.ofNat n ∧ F 44 1 = Int32.ofNat n ∧ n ≤ 8) ∧ (Zr (A 2) ∧ Zr (A 4) ∧ Mz A n) ∧ (∀ o a, plc n o a → mayV o (A 2 (cel o a))) ∧ (∀ o a, o < 7 → n ≤ a → a < 8 → A 2 (8 * o + a) = 0) ∧ ∀ o a, plx o a → A (mC o) (mI o a) = A 2 (cel o a)
def lay2 (A : Nat → Nat → Int32) (o a : Nat) (v : Int32) : Nat → Nat → Int32 := va_up (va_up A 2 (upd (A 2) (cel o a) v)) (mC o) (upd (A (mC o)) (mI o a) v)
theorem lay2_2 : lay2 A o a v 2 = upd (A 2) (cel o a) v := by
  unfold lay2; rw [u_ne (by have := mC_ge (o := o); omega), u_eq]
theorem lay2_m : lay2 A o a v (mC o) = upd (A (mC o)) (mI o a) v := by unfold lay2; rw [u_eq]
theorem lay2_o (h2 : k ≠ 2) (hm : k ≠ mC o) : lay2 A o a v k = A k := by unfold lay2; rw [u_ne hm, u_ne h2]
theorem Bs.lay (hB : Bs A F n) (hp : plc n o a) (hv : mayV o v) : Bs (lay2 A o a v) F n := by
  obtain ⟨b1, ⟨b2, b3, b4⟩, b5, b6, b7⟩ := hB
  have hx := plc_x b1.2.2 hp
  have hc := cel_lt hx
  have hm := mC_ge (o := o)
  have ho : o ≤ 10 := by unfold plx at hx; omega
  have hm2 := hm.2 ho
  refine ⟨b1, ⟨?_, ?_, ?_⟩, fun o' a' h' => ?_, fun o' a' h1 h2 h3 => ?_, fun o' a' h' => ?_⟩
  · rw [lay2_2]; exact b2.up hc
  · rw [lay2_o (by omega) (by omega)]; exact b3
  · intro q q1 q2
    rw [lay2_o (by omega) (by omega), lay2_o (by omega) (by omega), lay2_o (by omega) (by omega), lay2_o (by omega) (by omega)]
    exact b4 q q1 q2
  · rw [lay2_2]
    by_cases he : cel o' a' = cel o a
    · obtain ⟨rfl, rfl⟩ := cel_inj (plc_x b1.2.2 h') hx he
      rw [p_eq]; exact hv
    · rw [p_ne he]; exact b5 o' a' h'
  · rw [lay2_2, p_ne]
    · exact b6 o' a' h1 h2 h3
    · intro he
      have hx' : plx o' a' := Or.inl ⟨by omega, h3⟩
      have he' : cel o' a' = cel o a := by rw [← he]; unfold cel; rw [if_pos (by omega)]
      obtain ⟨rfl, rfl⟩ := cel_inj hx' hx he'
      unfold plc at hp
      omega
  · rw [lay2_2]
    by_cases he : cel o' a' = cel o a
    · obtain ⟨rfl, rfl⟩ := cel_inj h' hx he
      rw [lay2_m, p_eq, p_eq]
    · rw [p_ne he, ← b7 o' a' h']
      by_cases hmm : mC o' = mC o
      · rw [hmm, lay2_m, p_ne]
        intro hi
        obtain ⟨rfl, rfl⟩ := mC_inj h' hx hmm hi
        exact he rfl
      · have hg := mC_ge (o := o')
        rw [lay2_o (by omega) hmm]
theorem mayV_nat {b : Nat} (hb : b < 10000) (hm : mstI o = Int32.ofNat b) (h : mayV o v) : ∃ q, q ≤ b ∧ v = Int32.ofNat q := by
  have t0 : (0 : Int32).toInt = 0 := rfl
  have t1 : (1 : Int32).toInt = 1 := rfl
  obtain ⟨h1, h2⟩ := h
  have h0 : ¬ v < 0 := by
    unfold lstI at h1
    split at h1
    · rw [Int32.lt_iff_toInt_lt] at *; omega
    · exact h1
  rw [hm] at h2
  obtain ⟨q, hq, he⟩ := n_of (n := b + 1) (by omega) h0 (by rw [Int32.lt_iff_toInt_lt, n_ti (by omega)] at *; omega)
  exact ⟨q, by omega, he⟩
theorem mayV_bd {b : Nat} (hb : b < 10000) (hm : mstI o = Int32.ofNat b) (h : mayV o v) : bd v (b : Int) := by
  obtain ⟨q, hq, rfl⟩ := mayV_nat hb hm h
  unfold bd
  rw [n_ti (by omega)]
  omega
theorem bd_0 {m : Nat} : bd 0 (m : Int) := ⟨by show (0 : Int) ≤ 0; omega, by show (0 : Int) ≤ _; omega⟩
theorem Bs.ok (hB : Bs A F n) (h1 : TXok A F tc) (h2 : TXm A F tc) : ∃ y, NowOk A F tc n y ∧ ModOk A F tc n y (A 2) ∧ Rng (A 2) := by
  obtain ⟨⟨c1, c2, c3⟩, ⟨b2, b3, b4⟩, b5, b6, b7⟩ := hB
  obtain ⟨y, hy, ey⟩ := mayV_nat (o := 8) (b := 199) (by omega) rfl (b5 8 0 (Or.inr (Or.inr ⟨by omega, by omega, rfl⟩)))
  have ey' : A 2 64 = Int32.ofNat y := ey
  have hh : ∀ p, p < n → A 2 (40 + p) = 0 ∨ A 2 (40 + p) = 1 := fun p hp => by
    obtain ⟨q, hq, eq⟩ := mayV_nat (o := 5) (b := 1) (by omega) rfl (b5 5 p (Or.inl ⟨by omega, hp⟩))
    have eq' : A 2 (40 + p) = Int32.ofNat q := eq
    rw [eq']
    rcases (show q = 0 ∨ q = 1 by omega) with rfl | rfl
    · exact Or.inl rfl
    · exact Or.inr rfl
  have mir : ∀ p, p < 8 → A 45 p = A 2 p ∧ A 46 p = A 2 (8 + p) ∧ A 47 p = A 2 (16 + p) ∧ A 48 p = A 2 (24 + p) ∧ A 49 p = A 2 (32 + p) ∧ A 50 p = A 2 (40 + p) ∧ A 51 p = A 2 (48 + p) := fun p hp => by
    refine ⟨?_, b7 1 p (Or.inl ⟨by omega, hp⟩), b7 2 p (Or.inl ⟨by omega, hp⟩), b7 3 p (Or.inl ⟨by omega, hp⟩), b7 4 p (Or.inl ⟨by omega, hp⟩), b7 5 p (Or.inl ⟨by omega, hp⟩), b7 6 p (Or.inl ⟨by omega, hp⟩)⟩
    have h := b7 0 p (Or.inl ⟨by omega, hp⟩)
    have e : cel 0 p = p := by unfold cel; rw [if_pos (by omega)]; omega
    rw [e] at h
    exact h
  have rng : Rng (A 2) := by
    refine ⟨fun p hp => ?_, fun j hj => mayV_bd (o := 7) (b := 99) (by omega) rfl (b5 7 j (Or.inr (Or.inl ⟨rfl, hj⟩))), mayV_bd (o := 9) (b := 99) (by omega) rfl (b5 9 0 (Or.inr (Or.inr ⟨by omega, by omega, rfl⟩)))⟩
    by_cases hpn : p < n
    · exact ⟨mayV_bd (o := 1) (b := 9999) (by omega) rfl (b5 1 p (Or.inl ⟨by omega, hpn⟩)), mayV_bd (o := 2) (b := 99) (by omega) rfl (b5 2 p (Or.inl ⟨by omega, hpn⟩)), mayV_bd (o := 6) (b := 99) (by omega) rfl (b5 6 p (Or.inl ⟨by omega, hpn⟩))⟩
    · have z1 := b6 1 p (by omega) (by omega) hp
      have z2 := b6 2 p (by omega) (by omega) hp
      have z6 := b6 6 p (by omega) (by omega) hp
      rw [show 8 + p = 8 * 1 + p by omega, show 16 + p = 8 * 2 + p by omega, show 48 + p = 8 * 6 + p by omega, z1, z2, z6]
      exact ⟨bd_0 (m := 9999), bd_0 (m := 99), bd_0 (m := 99)⟩
  refine ⟨y, ⟨⟨Or.inl rfl, c1, c3, by omega, ey', hh⟩, h1, b2, b3⟩, ⟨⟨⟨c2, c3, by omega, ?_, b7 9 0 (Or.inr ⟨by omega, by omega, rfl⟩), b7 10 0 (Or.inr ⟨by omega, by omega, rfl⟩)⟩, mir, fun j hj => b7 7 j (Or.inl ⟨by omega, hj⟩), hh, fun p q1 q2 => ⟨b6 1 p (by omega) q1 q2, b6 2 p (by omega) q1 q2, b6 3 p (by omega) q1 q2, b6 5 p (by omega) q1 q2⟩, b4⟩, h2⟩, rng⟩
  rw [← ey']; exact b7 8 0 (Or.inr ⟨by omega, by omega, rfl⟩)
/-! the rest of what stands -/
def ChR (A F : Nat → Nat → Int32) (n : Nat) : Prop := ∃ d u : Nat, d + u ≤ 40 ∧ F 16 3 = Int32.ofNat d ∧ F 16 4 = Int32.ofNat (d + u) ∧ F 44 11 = Int32.ofNat d ∧ F 44 12 = Int32.ofNat u ∧ ∀ k, k < d + u → ∃ o a, plc n o a ∧ A 54 k = Int32.ofNat o ∧ A 55 k = Int32.ofNat a ∧ A 17 k = Int32.ofNat (cel o a) ∧ A 18 k = A 56 k ∧ A 19 k = A 57 k ∧ mayV o (A 18 k) ∧ mayV o (A 19 k)
def LdR (A : Nat → Nat → Int32) : Prop := ∀ j, j < 6 → A 20 j = A 72 j
def ImP (A F : Nat → Nat → Int32) (n km : Nat) : Prop := km ≤ n ∧ F 21 1 = Int32.ofNat km ∧ F 44 46 = Int32.ofNat km ∧ F 44 47 = A 22 64 ∧ mayV 8 (A 22 64) ∧ (∀ p, p < km → (A 73 (4 * p) = A 22 (8 + p) ∧ A 73 (4 * p + 1) = A 22 (16 + p) ∧ A 73 (4 * p + 2) = A 22 (24 + p) ∧ A 73 (4 * p + 3) = A 22 (40 + p)) ∧ mayV 1 (A 22 (8 + p)) ∧ mayV 2 (A 22 (16 + p)) ∧ mayV 3 (A 22 (24 + p)) ∧ mayV 5 (A 22 (40 + p))) ∧ ∀ j, j < 6 → A 23 j = A 74 j
def ImR (A F : Nat → Nat → Int32) (n : Nat) : Prop := (F 0 8 = 0 ∧ F 44 45 = 0) ∨ (F 0 8 = 1 ∧ F 44 45 = 1 ∧ ∃ km, ImP A F n km)
def byI (b : Nat) : Int32 := if b < 128 then Int32.ofNat b else Int32.ofNat b - 256
def TpR (A F : Nat → Nat → Int32) : Prop := ∃ t, t ≤ 120 ∧ F 13 1 = Int32.ofNat t ∧ F 44 18 = Int32.ofNat t ∧ ∀ k, k < t → ∃ b, b < 256 ∧ A 14 k = Int32.ofNat b ∧ A 58 k = byI b
def BdR (A F : Nat → Nat → Int32) (nb : Nat) : Prop := (nb ≤ 50 ∧ F 28 1 = Int32.ofNat nb ∧ F 44 50 = Int32.ofNat nb ∧ ∀ k, k < nb → ∃ d, d < 8 ∧ A 29 k = Int32.ofNat d ∧ A 75 k = Int32.ofNat d) ∧ ∃ t, t < 1000 ∧ F 28 3 = Int32.ofNat t ∧ F 44 52 = Int32.ofNat t ∧ ∀ k, k < t → k < 24 → A 30 k = A 76 k
def ShR (A : Nat → Nat → Int32) (L : Nat → Nat → Int64) (F : Nat → Nat → Int32) (nb : Nat) : Prop := ∀ s, s < 6 →
  (F (32 + 2 * s) 0 = -1 ∧ A 77 s = -1) ∨ (F (32 + 2 * s) 0 = 5 ∧ ∃ b, b < nb ∧ F (32 + 2 * s) 1 = Int32.ofNat b ∧ A 77 s = Int32.ofNat b) ∨ (∃ t i, t ≤ 4 ∧ i ≤ 60 ∧ F (32 + 2 * s) 0 = Int32.ofNat t ∧ A 77 s = -2 - Int32.ofNat t ∧ F (32 + 2 * s) 2 = Int32.ofNat i ∧ A 78 s = Int32.ofNat i ∧ ∀ k, k < 60 → L (33 + 2 * s) k = L 79 (60 * s + k))
def INV (A : Nat → Nat → Int32) (L : Nat → Nat → Int64) (F : Nat → Nat → Int32) (n nb : Nat) (tc : (Nat → Int32) → Int32) : Prop := (Bs A F n ∧ TXok A F tc ∧ TXm A F tc) ∧ (ChR A F n ∧ LdR A ∧ ImR A F n) ∧ TpR A F ∧ BdR A F nb ∧ ShR A L F nb
/-- what stands of places that are not of the world -/
theorem ChR.to {A' F' : Nat → Nat → Int32} (h : ChR A F n) (h1 : A' 17 = A 17 ∧ A' 18 = A 18 ∧ A' 19 = A 19 ∧ A' 54 = A 54 ∧ A' 55 = A 55 ∧ A' 56 = A 56 ∧ A' 57 = A 57) (h2 : F' 16 3 = F 16 3 ∧ F' 16 4 = F 16 4 ∧ F' 44 11 = F 44 11 ∧ F' 44 12 = F 44 12) : ChR A' F' n := by
  obtain ⟨d, u, a1, a2, a3, a4, a5, a6⟩ := h
  refine ⟨d, u, a1, by rw [h2.1]; exact a2, by rw [h2.2.1]; exact a3, by rw [h2.2.2.1]; exact a4, by rw [h2.2.2.2]; exact a5, fun k hk => ?_⟩
  rw [h1.1, h1.2.1, h1.2.2.1, h1.2.2.2.1, h1.2.2.2.2.1, h1.2.2.2.2.2.1, h1.2.2.2.2.2.2]
  exact a6 k hk
theorem plc_mono {n' : Nat} (hn : n ≤ n') (h : plc n o a) : plc n' o a := by unfold plc at *; omega
theorem ChR.mono {n' : Nat} (hn : n ≤ n') (h : ChR A F n) : ChR A F n' := by
  obtain ⟨d, u, a1, a2, a3, a4, a5, a6⟩ := h
  refine ⟨d, u, a1, a2, a3, a4, a5, fun k hk => ?_⟩
  obtain ⟨o, a, b1, b2⟩ := a6 k hk
  exact ⟨o, a, plc_mono hn b1, b2⟩
theorem LdR.to {A' : Nat → Nat → Int32} (h : LdR A) (h1 : A' 20 = A 20 ∧ A' 72 = A 72) : LdR A' := fun j hj => by rw [h1.1, h1.2]; exact h j hj
theorem ImR.to {A' F' : Nat → Nat → Int32} {n' : Nat} (h : ImR A F n) (hn : n ≤ n') (h1 : A' 22 = A 22 ∧ A' 23 = A 23 ∧ A' 73 = A 73 ∧ A' 74 = A 74) (h2 : F' 0 8 = F 0 8 ∧ F' 21 1 = F 21 1 ∧ F' 44 45 = F 44 45 ∧ F' 44 46 = F 44 46 ∧ F' 44 47 = F 44 47) : ImR A' F' n' := by
  rcases h with ⟨a, b⟩ | ⟨a, b, km, c1, c2, c3, c4, c5, c6, c7⟩
  · exact Or.inl ⟨by rw [h2.1]; exact a, by rw [h2.2.2.1]; exact b⟩
  · refine Or.inr ⟨by rw [h2.1]; exact a, by rw [h2.2.2.1]; exact b, km, by omega, by rw [h2.2.1]; exact c2, by rw [h2.2.2.2.1]; exact c3, by rw [h2.2.2.2.2, h1.1]; exact c4, by rw [h1.1]; exact c5, by rw [h1.1, h1.2.2.1]; exact c6, by rw [h1.2.1, h1.2.2.2]; exact c7⟩
theorem TpR.to {A' F' : Nat → Nat → Int32} (h : TpR A F) (h1 : A' 14 = A 14 ∧ A' 58 = A 58) (h2 : F' 13 1 = F 13 1 ∧ F' 44 18 = F 44 18) : TpR A' F' := by
  obtain ⟨t, a, b, d, e⟩ := h
  exact ⟨t, a, by rw [h2.1]; exact b, by rw [h2.2]; exact d, by rw [h1.1, h1.2]; exact e⟩
theorem BdR.to {A' F' : Nat → Nat → Int32} (h : BdR A F nb) (h1 : A' 29 = A 29 ∧ A' 30 = A 30 ∧ A' 75 = A 75 ∧ A' 76 = A 76) (h2 : F' 28 1 = F 28 1 ∧ F' 28 3 = F 28 3 ∧ F' 44 50 = F 44 50 ∧ F' 44 52 = F 44 52) : BdR A' F' nb := by
  obtain ⟨⟨a1, a2, a3, a4⟩, t, b1, b2, b3, b4⟩ := h
  exact ⟨⟨a1, by rw [h2.1]; exact a2, by rw [h2.2.2.1]; exact a3, by rw [h1.1, h1.2.2.1]; exact a4⟩, t, b1, by rw [h2.2.1]; exact b2, by rw [h2.2.2.2]; exact b3, by rw [h1.2.1, h1.2.2.2]; exact b4⟩
theorem ShR.to {A' F' : Nat → Nat → Int32} (h : ShR A L F nb) (h1 : A' 77 = A 77 ∧ A' 78 = A 78) (h2 : ∀ s, s < 6 → F' (32 + 2 * s) = F (32 + 2 * s)) : ShR A' L F' nb := fun s hs => by
  rw [h1.1, h1.2, h2 s hs]; exact h s hs
theorem Bs.to {A' F' : Nat → Nat → Int32} (h : Bs A F n) (h1 : A' 2 = A 2) (h2 : Zr (A' 4)) (h3 : Mz A' n) (h4 : ∀ k, 45 ≤ k → k ≤ 53 → A' k = A k) (h5 : F' 1 1 = F 1 1 ∧ F' 44 1 = F 44 1) : Bs A' F' n := by
  obtain ⟨⟨c1, c2, c3⟩, ⟨b2, b3, b4⟩, b5, b6, b7⟩ := h
  refine ⟨⟨by rw [h5.1]; exact c1, by rw [h5.2]; exact c2, c3⟩, ⟨by rw [h1]; exact b2, h2, h3⟩, by rw [h1]; exact b5, by rw [h1]; exact b6, fun o a h' => ?_⟩
  have hg := mC_ge (o := o)
  have ho : o ≤ 10 := by unfold plx at h'; omega
  rw [h1, h4 _ hg.1 (hg.2 ho)]
  exact b7 o a h'
/-- behind a question to the class -/
theorem INV.sc {A' F' : Nat → Nat → Int32} (h : INV A L F n nb tc) (s : Sc A F A' F') : INV A' L F' n nb tc := by
  obtain ⟨⟨b, t1, t2⟩, ⟨c1, c2, c3⟩, d1, d2, d3⟩ := h
  have eA : ∀ k, k ∉ [4, 8, 9, 10, 11, 12, 24, 26, 27] → A' k = A k := s.1
  have eF : ∀ k, k ∉ [3, 5, 25] → F' k = F k := s.2.1
  refine ⟨⟨b.to (eA 2 (by simp)) s.2.2 (fun p h1 h2 => ?_) (fun k h1 h2 => eA k (by simp; omega)) ⟨by rw [eF 1 (by simp)], by rw [eF 44 (by simp)]⟩, t1.to (eA 7 (by simp)) (eF 6 (by simp)), t2.to s.1 (by simp) (by rw [eF 44 (by simp)])⟩, ⟨c1.to ⟨eA 17 (by simp), eA 18 (by simp), eA 19 (by simp), eA 54 (by simp), eA 55 (by simp), eA 56 (by simp), eA 57 (by simp)⟩ ⟨by rw [eF 16 (by simp)], by rw [eF 16 (by simp)], by rw [eF 44 (by simp)], by rw [eF 44 (by simp)]⟩, c2.to ⟨eA 20 (by simp), eA 72 (by simp)⟩, c3.to (Nat.le_refl _) ⟨eA 22 (by simp), eA 23 (by simp), eA 73 (by simp), eA 74 (by simp)⟩ ⟨by rw [eF 0 (by simp)], by rw [eF 21 (by simp)], by rw [eF 44 (by simp)], by rw [eF 44 (by simp)], by rw [eF 44 (by simp)]⟩⟩, d1.to ⟨eA 14 (by simp), eA 58 (by simp)⟩ ⟨by rw [eF 13 (by simp)], by rw [eF 44 (by simp)]⟩, d2.to ⟨eA 29 (by simp), eA 30 (by simp), eA 75 (by simp), eA 76 (by simp)⟩ ⟨by rw [eF 28 (by simp)], by rw [eF 28 (by simp)], by rw [eF 44 (by simp)], by rw [eF 44 (by simp)]⟩, d3.to ⟨eA 77 (by simp), eA 78 (by simp)⟩ (fun s hs => eF _ (by simp; omega))⟩
  rw [eA 66 (by simp), eA 67 (by simp), eA 68 (by simp), eA 69 (by simp)]
  exact b.2.1.2.2 p h1 h2
/-- behind a question to the reference -/
theorem INV.mq {A' F' : Nat → Nat → Int32} (h : INV A L F n nb tc) (s : Mq A F A' F' n) : INV A' L F' n nb tc := by
  obtain ⟨⟨b, t1, t2⟩, ⟨c1, c2, c3⟩, d1, d2, d3⟩ := h
  have eA : ∀ k, k ∉ [64, 65, 66, 67, 68, 69, 70, 71] → A' k = A k := s.1
  have eF : ∀ k, k ∉ [44] → F' k = F k := s.2.1
  have e4 : ∀ k, k < 36 ∨ 43 < k → F' 44 k = F 44 k := s.2.2.1
  exact ⟨⟨b.to (eA 2 (by simp)) (by rw [eA 4 (by simp)]; exact b.2.1.2.1) s.2.2.2 (fun k h1 h2 => eA k (by simp; omega)) ⟨by rw [eF 1 (by simp)], e4 1 (by omega)⟩, t1.to (eA 7 (by simp)) (eF 6 (by simp)), t2.to s.1 (by simp) (e4 30 (by omega))⟩, ⟨c1.to ⟨eA 17 (by simp), eA 18 (by simp), eA 19 (by simp), eA 54 (by simp), eA 55 (by simp), eA 56 (by simp), eA 57 (by simp)⟩ ⟨by rw [eF 16 (by simp)], by rw [eF 16 (by simp)], e4 11 (by omega), e4 12 (by omega)⟩, c2.to ⟨eA 20 (by simp), eA 72 (by simp)⟩, c3.to (Nat.le_refl _) ⟨eA 22 (by simp), eA 23 (by simp), eA 73 (by simp), eA 74 (by simp)⟩ ⟨by rw [eF 0 (by simp)], by rw [eF 21 (by simp)], e4 45 (by omega), e4 46 (by omega), e4 47 (by omega)⟩⟩, d1.to ⟨eA 14 (by simp), eA 58 (by simp)⟩ ⟨by rw [eF 13 (by simp)], e4 18 (by omega)⟩, d2.to ⟨eA 29 (by simp), eA 30 (by simp), eA 75 (by simp), eA 76 (by simp)⟩ ⟨by rw [eF 28 (by simp)], by rw [eF 28 (by simp)], e4 50 (by omega), e4 52 (by omega)⟩, d3.to ⟨eA 77 (by simp), eA 78 (by simp)⟩ (fun s hs => eF _ (by simp; omega))⟩
end INV
