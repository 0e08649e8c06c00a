/-! THE ABSTRACT STATE: cells in a list, a reference is a place in it (from 1000 on: an array outside that is only read) -/
abbrev xm_E : Type := (Nat × vp_A) ⊕ (Nat × List Value)
abbrev xm_H : Type := List xm_E
/-- a method: its name, code, locals, what it returns, the cells and slots that it makes -/
abbrev xm_S : Type := MethodName × ByteArray × Nat × Option FieldType × Nat × Nat
abbrev xm_X : Type := Nat × Nat × List Nat × Int32 × Int64 × List (Int32 × Nat) × xm_S
/-- a row of a method's table: pc, instruction, length, whether walks stop ahead of it, what it is resolved to -/
abbrev xm_I : Type := Nat × Instr × Nat × Option (List Bool) × xm_X
abbrev xm_O : Type := Nat → Option (Nat × (Nat → Int32))
def xm_v (r : Nat → Nat) (v : Value) : Value := match v with
  | .ref k => .ref (r k)
  | .int x => .int x
  | .long x => .long x
  | .float x => .float x
  | .double x => .double x
  | .null => .null
  | .retAddr x => .retAddr x
def xm_a (r : Nat → Nat) (a : vp_A) : vp_A := match a with
  | (n, .inl f) => (n, .inl f)
  | (n, .inr (.inl f)) => (n, .inr (.inl f))
  | (n, .inr (.inr (.inl f))) => (n, .inr (.inr (.inl f)))
  | (n, .inr (.inr (.inr (.inl f)))) => (n, .inr (.inr (.inr (.inl f))))
  | (n, .inr (.inr (.inr (.inr f)))) => (n, .inr (.inr (.inr (.inr (fun j => if j < n then (f j).map r else none)))))
def xm_e (cA : Nat → ClassId) (r : Nat → Nat) (e : xm_E) : va_E := match e with
  | .inl (t, a) => .inl (cA t, xm_a r a)
  | .inr (ci, fs) => .inr (ci, fs.map (xm_v r))
def xm_w (cA : Nat → ClassId) (r : Nat → Nat) (h : xm_H) : va_W := h.mapIdx (fun i e => (r i, xm_e cA r e))
theorem xm_w_get (cA : Nat → ClassId) (r : Nat → Nat) (h : xm_H) (i : Nat) : (xm_w cA r h)[i]? = (h[i]?).map (fun e => (r i, xm_e cA r e)) := by
  unfold xm_w; rw [List.getElem?_mapIdx]
theorem xm_w_at {cA : Nat → ClassId} {r : Nat → Nat} {h : xm_H} {i : Nat} {e : xm_E} (he : h[i]? = some e) : (xm_w cA r h)[i]? = some (r i, xm_e cA r e) := by
  rw [xm_w_get, he]; rfl
theorem xm_w_len (cA : Nat → ClassId) (r : Nat → Nat) (h : xm_H) : (xm_w cA r h).length = h.length := by simp [xm_w]
theorem xm_w_set (cA : Nat → ClassId) (r : Nat → Nat) (h : xm_H) (i : Nat) (e : xm_E) : xm_w cA r (h.set i e) = (xm_w cA r h).set i (r i, xm_e cA r e) := by
  apply List.ext_getElem?
  intro j
  rw [xm_w_get, List.getElem?_set, List.getElem?_set, xm_w_get, xm_w_len]
  by_cases hj : i = j
  · subst hj
    by_cases hl : i < h.length
    · simp [hl]
    · simp [hl]
  · simp [hj]
theorem xm_w_app (cA : Nat → ClassId) (r : Nat → Nat) (h : xm_H) (e : xm_E) : xm_w cA r (h ++ [e]) = xm_w cA r h ++ [(r h.length, xm_e cA r e)] := by
  unfold xm_w; rw [List.mapIdx_append]; simp
theorem xm_v_cat (r : Nat → Nat) (v : Value) : (xm_v r v).category = v.category := by cases v <;> rfl
/-! fields -/
def xm_fld (h : xm_H) (o ci k : Nat) : Option Value := match h[o]? with
  | some (.inr (c, fs)) => if c = ci then fs[k]? else none
  | _ => none
def xm_put (h : xm_H) (o ci k : Nat) (v : Value) : Option xm_H := match h[o]? with
  | some (.inr (c, fs)) => if c = ci ∧ k < fs.length then some (h.set o (.inr (c, fs.set k v))) else none
  | _ => none
theorem xm_fld_e {h : xm_H} {o ci k : Nat} {v : Value} (H : xm_fld h o ci k = some v) : ∃ fs, h[o]? = some (.inr (ci, fs)) ∧ fs[k]? = some v := by
  unfold xm_fld at H
  split at H
  · next c fs he =>
    split at H
    · next hc => subst hc; exact ⟨fs, he, H⟩
    · cases H
  · cases H
theorem xm_put_e {h h1 : xm_H} {o ci k : Nat} {v : Value} (H : xm_put h o ci k v = some h1) : ∃ fs, h[o]? = some (.inr (ci, fs)) ∧ k < fs.length ∧ h1 = h.set o (.inr (ci, fs.set k v)) := by
  unfold xm_put at H
  split at H
  · next c fs he =>
    split at H
    · next hc => obtain ⟨rfl, hk⟩ := hc; cases H; exact ⟨fs, he, hk, rfl⟩
    · cases H
  · cases H
/-! arrays: 0 ints, 1 bytes, 2 shorts, 3 longs, 4 references -/
def xm_ar (O : xm_O) (h : xm_H) (t a : Nat) : Option (Nat × (Nat → Int32)) := match h[a]? with
  | some (.inl (t', n, .inl f)) => if t' = t then some (n, f) else none
  | some _ => none
  | none => if t = 0 ∧ 1000 ≤ a then O (a - 1000) else none
theorem xm_ar_e {O : xm_O} {h : xm_H} {t a n : Nat} {f : Nat → Int32} (H : xm_ar O h t a = some (n, f)) : h[a]? = some (.inl (t, n, .inl f)) ∨ (t = 0 ∧ ∃ j, a = 1000 + j ∧ O j = some (n, f)) := by
  unfold xm_ar at H
  split at H
  · next t' n' f' he =>
    split at H
    · next hc => subst hc; cases H; exact Or.inl he
    · cases H
  · cases H
  · split at H
    · next hc => exact Or.inr ⟨hc.1, a - 1000, by omega, H⟩
    · cases H
def xm_ld (O : xm_O) (h : xm_H) (t a : Nat) (i : Int32) : Option Int32 := match xm_ar O h t a with
  | some (n, f) => if ¬ i < 0 ∧ i.toNatClampNeg < n then some (f i.toNatClampNeg) else none
  | none => none
theorem xm_ld_e {O : xm_O} {h : xm_H} {t a : Nat} {i x : Int32} (H : xm_ld O h t a i = some x) : ∃ n f, xm_ar O h t a = some (n, f) ∧ vp_in i n ∧ f i.toNatClampNeg = x := by
  unfold xm_ld at H
  split at H
  · next n f he =>
    split at H
    · next hc => cases H; exact ⟨n, f, he, fun q => q.elim (fun q => hc.1 q) (fun q => by omega), rfl⟩
    · cases H
  · cases H
def xm_nar (t : Nat) (x : Int32) : Int32 := match t with
  | 1 => vp_nar .byte x
  | 2 => vp_nar .short x
  | _ => x
def xm_sto (h : xm_H) (t a : Nat) (i x : Int32) : Option xm_H := match h[a]? with
  | some (.inl (t', n, .inl f)) => if t' = t ∧ ¬ i < 0 ∧ i.toNatClampNeg < n then some (h.set a (.inl (t', n, .inl (upd f i.toNatClampNeg (xm_nar t x))))) else none
  | _ => none
theorem xm_sto_e {h h1 : xm_H} {t a : Nat} {i x : Int32} (H : xm_sto h t a i x = some h1) : ∃ n f, h[a]? = some (.inl (t, n, .inl f)) ∧ vp_in i n ∧ h1 = h.set a (.inl (t, n, .inl (upd f i.toNatClampNeg (xm_nar t x)))) := by
  unfold xm_sto at H
  split at H
  · next t' n f he =>
    split at H
    · next hc => obtain ⟨rfl, hc1, hc2⟩ := hc; cases H; exact ⟨n, f, he, fun q => q.elim (fun q => hc1 q) (fun q => by omega), rfl⟩
    · cases H
  · cases H
def xm_ldL (h : xm_H) (a : Nat) (i : Int32) : Option Int64 := match h[a]? with
  | some (.inl (3, n, .inr (.inl f))) => if ¬ i < 0 ∧ i.toNatClampNeg < n then some (f i.toNatClampNeg) else none
  | _ => none
theorem xm_ldL_e {h : xm_H} {a : Nat} {i : Int32} {x : Int64} (H : xm_ldL h a i = some x) : ∃ n f, h[a]? = some (.inl (3, n, .inr (.inl f))) ∧ vp_in i n ∧ f i.toNatClampNeg = x := by
  unfold xm_ldL at H
  split at H
  · next n f he =>
    split at H
    · next hc => cases H; exact ⟨n, f, he, fun q => q.elim (fun q => hc.1 q) (fun q => by omega), rfl⟩
    · cases H
  · cases H
def xm_stoL (h : xm_H) (a : Nat) (i : Int32) (x : Int64) : Option xm_H := match h[a]? with
  | some (.inl (3, n, .inr (.inl f))) => if ¬ i < 0 ∧ i.toNatClampNeg < n then some (h.set a (.inl (3, n, .inr (.inl (vp_updL f i.toNatClampNeg x))))) else none
  | _ => none
theorem xm_stoL_e {h h1 : xm_H} {a : Nat} {i : Int32} {x : Int64} (H : xm_stoL h a i x = some h1) : ∃ n f, h[a]? = some (.inl (3, n, .inr (.inl f))) ∧ vp_in i n ∧ h1 = h.set a (.inl (3, n, .inr (.inl (vp_updL f i.toNatClampNeg x)))) := by
  unfold xm_stoL at H
  split at H
  · next n f he =>
    split at H
    · next hc => cases H; exact ⟨n, f, he, fun q => q.elim (fun q => hc.1 q) (fun q => by omega), rfl⟩
    · cases H
  · cases H
def xm_ldR (h : xm_H) (a : Nat) (i : Int32) : Option Nat := match h[a]? with
  | some (.inl (4, n, .inr (.inr (.inr (.inr f))))) => if ¬ i < 0 ∧ i.toNatClampNeg < n then f i.toNatClampNeg else none
  | _ => none
theorem xm_ldR_e {h : xm_H} {a : Nat} {i : Int32} {x : Nat} (H : xm_ldR h a i = some x) : ∃ n f, h[a]? = some (.inl (4, n, .inr (.inr (.inr (.inr f))))) ∧ vp_in i n ∧ f i.toNatClampNeg = some x := by
  unfold xm_ldR at H
  split at H
  · next n f he =>
    split at H
    · next hc => exact ⟨n, f, he, fun q => q.elim (fun q => hc.1 q) (fun q => by omega), H⟩
    · cases H
  · cases H
def xm_stoR (h : xm_H) (a : Nat) (i : Int32) (b : Nat) : Option xm_H := match h[a]?, h[b]? with
  | some (.inl (4, n, .inr (.inr (.inr (.inr f))))), some (.inr (5, _)) => if ¬ i < 0 ∧ i.toNatClampNeg < n then some (h.set a (.inl (4, n, .inr (.inr (.inr (.inr (va_up f i.toNatClampNeg (some b)))))))) else none
  | _, _ => none
theorem xm_stoR_e {h h1 : xm_H} {a b : Nat} {i : Int32} (H : xm_stoR h a i b = some h1) : ∃ n f fs, h[a]? = some (.inl (4, n, .inr (.inr (.inr (.inr f))))) ∧ h[b]? = some (.inr (5, fs)) ∧ vp_in i n ∧ h1 = h.set a (.inl (4, n, .inr (.inr (.inr (.inr (va_up f i.toNatClampNeg (some b))))))) := by
  unfold xm_stoR at H
  split at H
  · next n f fs he hb =>
    split at H
    · next hc => cases H; exact ⟨n, f, fs, he, hb, fun q => q.elim (fun q => hc.1 q) (fun q => by omega), rfl⟩
    · cases H
  · cases H
def xm_len (O : xm_O) (h : xm_H) (a : Nat) : Option Int32 := match h[a]? with
  | some (.inl (t, n, _)) => if t < 5 then some (Int32.ofNat n) else none
  | some _ => none
  | none => if 1000 ≤ a then (O (a - 1000)).map (fun q => Int32.ofNat q.1) else none
theorem xm_len_e {O : xm_O} {h : xm_H} {a : Nat} {x : Int32} (H : xm_len O h a = some x) : (∃ t n f, t < 5 ∧ h[a]? = some (.inl (t, n, f)) ∧ Int32.ofNat n = x) ∨ ∃ j n f, a = 1000 + j ∧ O j = some (n, f) ∧ Int32.ofNat n = x := by
  unfold xm_len at H
  split at H
  · next t n f he =>
    split at H
    · next ht => cases H; exact Or.inl ⟨t, n, f, ht, he, rfl⟩
    · cases H
  · cases H
  · split at H
    · next hc =>
      cases ho : O (a - 1000) with
      | none => rw [ho] at H; cases H
      | some q => rw [ho] at H; cases H; exact Or.inr ⟨a - 1000, q.1, q.2, by omega, ho, rfl⟩
    · cases H
/-- arraycopy of ints (t = 0) -/
def xm_cpI (h : xm_H) (a0 : Nat) (sp : Int32) (a1 : Nat) (dp n : Int32) : Option xm_H := match h[a0]?, h[a1]? with
  | some (.inl (0, n0, .inl f)), some (.inl (0, n1, .inl g)) => if (¬ sp < 0 ∧ ¬ dp < 0 ∧ ¬ n < 0) ∧ sp.toNatClampNeg + n.toNatClampNeg ≤ n0 ∧ dp.toNatClampNeg + n.toNatClampNeg ≤ n1 then some (h.set a1 (.inl (0, n1, .inl (va_cpy f g sp.toNatClampNeg dp.toNatClampNeg n.toNatClampNeg)))) else none
  | _, _ => none
theorem xm_cpI_e {h h1 : xm_H} {a0 a1 : Nat} {sp dp n : Int32} (H : xm_cpI h a0 sp a1 dp n = some h1) : ∃ n0 f n1 g, h[a0]? = some (.inl (0, n0, .inl f)) ∧ h[a1]? = some (.inl (0, n1, .inl g)) ∧ (¬ sp < 0 ∧ ¬ dp < 0 ∧ ¬ n < 0) ∧ sp.toNatClampNeg + n.toNatClampNeg ≤ n0 ∧ dp.toNatClampNeg + n.toNatClampNeg ≤ n1 ∧ h1 = h.set a1 (.inl (0, n1, .inl (va_cpy f g sp.toNatClampNeg dp.toNatClampNeg n.toNatClampNeg))) := by
  unfold xm_cpI at H
  split at H
  · next n0 f n1 g he hb =>
    split at H
    · next hc => cases H; exact ⟨n0, f, n1, g, he, hb, hc.1, hc.2.1, hc.2.2, rfl⟩
    · cases H
  · cases H
def xm_cpL (h : xm_H) (a0 : Nat) (sp : Int32) (a1 : Nat) (dp n : Int32) : Option xm_H := match h[a0]?, h[a1]? with
  | some (.inl (3, n0, .inr (.inl f))), some (.inl (3, n1, .inr (.inl g))) => if (¬ sp < 0 ∧ ¬ dp < 0 ∧ ¬ n < 0) ∧ sp.toNatClampNeg + n.toNatClampNeg ≤ n0 ∧ dp.toNatClampNeg + n.toNatClampNeg ≤ n1 then some (h.set a1 (.inl (3, n1, .inr (.inl (va_cpy f g sp.toNatClampNeg dp.toNatClampNeg n.toNatClampNeg))))) else none
  | _, _ => none
theorem xm_cpL_e {h h1 : xm_H} {a0 a1 : Nat} {sp dp n : Int32} (H : xm_cpL h a0 sp a1 dp n = some h1) : ∃ n0 f n1 g, h[a0]? = some (.inl (3, n0, .inr (.inl f))) ∧ h[a1]? = some (.inl (3, n1, .inr (.inl g))) ∧ (¬ sp < 0 ∧ ¬ dp < 0 ∧ ¬ n < 0) ∧ sp.toNatClampNeg + n.toNatClampNeg ≤ n0 ∧ dp.toNatClampNeg + n.toNatClampNeg ≤ n1 ∧ h1 = h.set a1 (.inl (3, n1, .inr (.inl (va_cpy f g sp.toNatClampNeg dp.toNatClampNeg n.toNatClampNeg)))) := by
  unfold xm_cpL at H
  split at H
  · next n0 f n1 g he hb =>
    split at H
    · next hc => cases H; exact ⟨n0, f, n1, g, he, hb, hc.1, hc.2.1, hc.2.2, rfl⟩
    · cases H
  · cases H
