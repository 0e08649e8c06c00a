/-! small numbers as Int32 -/
theorem n_ti {p : Nat} (hp : p < 2147483648) : (Int32.ofNat p).toInt = (p : Int) := Int32.toInt_ofNat_of_lt (by omega)
theorem n_lt {p q : Nat} (hp : p < 2147483648) (hq : q < 2147483648) : (Int32.ofNat p < Int32.ofNat q) ↔ p < q := by
  rw [Int32.lt_iff_toInt_lt, n_ti hp, n_ti hq]; omega
theorem n_eq {p q : Nat} (hp : p < 2147483648) (hq : q < 2147483648) : (Int32.ofNat p = Int32.ofNat q) ↔ p = q := by
  rw [← Int32.toInt_inj, n_ti hp, n_ti hq]; omega
theorem n_add (p q : Nat) : Int32.ofNat p + Int32.ofNat q = Int32.ofNat (p + q) := (Int32.ofNat_add p q).symm
theorem n_mul (p q : Nat) : Int32.ofNat p * Int32.ofNat q = Int32.ofNat (p * q) := (Int32.ofNat_mul p q).symm
theorem n_succ (p : Nat) : Int32.ofNat p + 1 = Int32.ofNat (p + 1) := n_add p 1
theorem n_pred (p : Nat) : Int32.ofNat (p + 1) - 1 = Int32.ofNat p := by
  rw [← n_succ]; exact Int32.add_sub_cancel _ _
theorem n_neg1 : ((-1 : Int32) < 0) := by decide
/-- a number that is not below 0 and below a small bound is a small Nat -/
theorem n_of {x : Int32} {n : Nat} (hn : n < 2147483648) (h0 : ¬ x < 0) (h1 : x < Int32.ofNat n) : ∃ p, p < n ∧ x = Int32.ofNat p := by
  refine ⟨x.toInt.toNat, ?_, ?_⟩
  · rw [Int32.lt_iff_toInt_lt, n_ti hn] at h1
    rw [Int32.lt_iff_toInt_lt] at h0
    have : (0 : Int32).toInt = 0 := rfl
    omega
  · rw [Int32.lt_iff_toInt_lt] at h0
    have hz : (0 : Int32).toInt = 0 := rfl
    rw [Int32.lt_iff_toInt_lt, n_ti hn] at h1
    rw [← Int32.toInt_inj, n_ti (by omega)]
    omega
/-- of two families of functions: alike but at these places -/
def Ag {α : Type} (S : List Nat) (A A' : Nat → α) : Prop := ∀ k, k ∉ S → A' k = A k
theorem Ag.rf {α : Type} {S : List Nat} {A : Nat → α} : Ag S A A := fun _ _ => rfl
theorem Ag.tr {α : Type} {S : List Nat} {A B C : Nat → α} (h1 : Ag S A B) (h2 : Ag S B C) : Ag S A C := fun k hk => (h2 k hk).trans (h1 k hk)
theorem Ag.up {α : Type} {S : List Nat} {A B : Nat → α} (h1 : Ag S A B) {c : Nat} {f : α} (hc : c ∈ S) : Ag S A (va_up B c f) := fun k hk => by
  have : k ≠ c := fun e => hk (e ▸ hc)
  rw [va_up, if_neg this]; exact h1 k hk
theorem Ag.mono {α : Type} {S T : List Nat} {A B : Nat → α} (h1 : Ag S A B) (h : ∀ k ∈ S, k ∈ T) : Ag T A B := fun k hk => h1 k (fun e => hk (h k e))
theorem u_eq {α : Type} {A : Nat → α} {c : Nat} {f : α} : va_up A c f c = f := by rw [va_up, if_pos rfl]
theorem u_ne {α : Type} {A : Nat → α} {c k : Nat} {f : α} (h : k ≠ c) : va_up A c f k = A k := by rw [va_up, if_neg h]
theorem p_eq {f : Nat → Int32} {c : Nat} {x : Int32} : upd f c x c = x := by rw [upd, if_pos rfl]
theorem p_ne {f : Nat → Int32} {c k : Nat} {x : Int32} (h : k ≠ c) : upd f c x k = f k := by rw [upd, if_neg h]
