/-! locals by their places; what a store leaves -/
def xm_cl2 (q : Option Value) : Option Value := match q with
  | some (.long _) => none
  | some (.double _) => none
  | some v => some v
  | none => none
def xm_st1 : List (Option Value) → Nat → Value → List (Option Value)
  | [], _, _ => []
  | _ :: r, 0, v => some v :: r
  | q :: r, 1, v => xm_cl2 q :: xm_st1 r 0 v
  | q :: r, n + 2, v => q :: xm_st1 r (n + 1) v
def xm_st2 (ls : List (Option Value)) (n : Nat) (v : Value) : List (Option Value) := (xm_st1 ls n v).set (n + 1) none
def xm_lh (r : Nat → Nat) (arr : Array Slot) (nL : Nat) (ls : List (Option Value)) : Prop :=
  ls.length = nL ∧ arr.size = nL ∧ lv_wf arr ∧ ∀ (i : Nat) (v : Value), ls[i]? = some (some v) → arr[i]? = some (.val (xm_v r v))
def xm_pr (r : Nat → Nat) (ls : List (Option Value)) : List (Nat × Value) := (List.range ls.length).filterMap (fun i => match ls[i]? with
  | some (some v) => some (i, xm_v r v)
  | _ => none)
theorem xm_pr_mem {r : Nat → Nat} {ls : List (Option Value)} {i : Nat} {w : Value} : (i, w) ∈ xm_pr r ls ↔ ∃ v, ls[i]? = some (some v) ∧ w = xm_v r v := by
  unfold xm_pr
  rw [List.mem_filterMap]
  constructor
  · rintro ⟨j, -, hj⟩
    split at hj
    · next v hv => cases hj; exact ⟨v, hv, rfl⟩
    · cases hj
  · rintro ⟨v, hv, rfl⟩
    refine ⟨i, ?_, by rw [hv]⟩
    rw [List.mem_range]
    exact (List.getElem?_eq_some_iff.mp hv).1
theorem xm_lh_has {r : Nat → Nat} {arr : Array Slot} {nL : Nat} {ls : List (Option Value)} (h : xm_lh r arr nL ls) : lv_has arr nL (xm_pr r ls) := by
  refine ⟨h.2.1, h.2.2.1, fun q hq => ?_⟩
  obtain ⟨i, w⟩ := q
  obtain ⟨v, hv, rfl⟩ := xm_pr_mem.mp hq
  exact h.2.2.2 i v hv
theorem xm_cl2_e {q : Option Value} {w : Value} (h : xm_cl2 q = some w) : q = some w ∧ ¬ w.category = 2 := by
  unfold xm_cl2 at h
  split at h
  · cases h
  · cases h
  · next v h1 h2 =>
    cases h
    refine ⟨rfl, fun e => ?_⟩
    cases w with
    | long x => exact h1 x rfl
    | double x => exact h2 x rfl
    | int x => cases e
    | float x => cases e
    | null => cases e
    | ref x => cases e
    | retAddr x => cases e
  · cases h
theorem xm_st1_len : ∀ (ls : List (Option Value)) (n : Nat) (v : Value), (xm_st1 ls n v).length = ls.length
  | [], _, _ => rfl
  | _ :: r, 0, v => rfl
  | q :: r, 1, v => by show (xm_st1 r 0 v).length + 1 = _; rw [xm_st1_len r 0 v]; rfl
  | q :: r, n + 2, v => by show (xm_st1 r (n + 1) v).length + 1 = _; rw [xm_st1_len r (n + 1) v]; rfl
theorem xm_st1_get : ∀ {ls : List (Option Value)} {n : Nat} {v : Value} {j : Nat} {w : Value}, (xm_st1 ls n v)[j]? = some (some w) → (j = n ∧ w = v) ∨ (j ≠ n ∧ ls[j]? = some (some w) ∧ ¬ (j + 1 = n ∧ w.category = 2))
  | [], _, _, j, _, h => by cases h
  | _ :: r, 0, v, 0, w, h => by cases h; exact Or.inl ⟨rfl, rfl⟩
  | _ :: r, 0, v, j + 1, w, h => Or.inr ⟨by omega, h, fun e => by omega⟩
  | q :: r, 1, v, 0, w, h => by
    have h : some (xm_cl2 q) = some (some w) := h
    obtain ⟨h1, h2⟩ := xm_cl2_e (Option.some.inj h)
    exact Or.inr ⟨by omega, by rw [h1]; rfl, fun e => h2 e.2⟩
  | q :: r, 1, v, j + 1, w, h => by
    rcases xm_st1_get (ls := r) (n := 0) (j := j) h with ⟨h1, h2⟩ | ⟨h1, h2, h3⟩
    · exact Or.inl ⟨by omega, h2⟩
    · exact Or.inr ⟨by omega, h2, fun e => by omega⟩
  | q :: r, n + 2, v, 0, w, h => Or.inr ⟨by omega, h, fun e => by omega⟩
  | q :: r, n + 2, v, j + 1, w, h => by
    rcases xm_st1_get (ls := r) (n := n + 1) (j := j) h with ⟨h1, h2⟩ | ⟨h1, h2, h3⟩
    · exact Or.inl ⟨by omega, h2⟩
    · exact Or.inr ⟨by omega, h2, fun e => h3 ⟨by omega, e.2⟩⟩
theorem xm_lh_st1 {r : Nat → Nat} {arr' : Array Slot} {nL : Nat} {ls : List (Option Value)} {n : Nat} {v : Value} (hlen : ls.length = nL) (h : lv_has arr' nL ((n, xm_v r v) :: (xm_pr r ls).filter (fun q => !(q.1 == n) && !(q.1 + 1 == n && q.2.category == 2)))) : xm_lh r arr' nL (xm_st1 ls n v) := by
  refine ⟨by rw [xm_st1_len, hlen], h.1, h.2.1, fun j w hj => ?_⟩
  rcases xm_st1_get hj with ⟨rfl, rfl⟩ | ⟨hne, hg, hc⟩
  · exact h.2.2 _ List.mem_cons_self
  · refine h.2.2 (j, xm_v r w) (List.mem_cons_of_mem _ (List.mem_filter.mpr ⟨xm_pr_mem.mpr ⟨w, hg, rfl⟩, ?_⟩))
    simp only [Bool.and_eq_true, Bool.not_eq_true', beq_eq_false_iff_ne, ne_eq, Bool.and_eq_false_iff, xm_v_cat]
    refine ⟨hne, ?_⟩
    by_cases h1 : j + 1 = n
    · exact Or.inr (fun e => hc ⟨h1, e⟩)
    · exact Or.inl h1
theorem xm_lh_st2 {r : Nat → Nat} {arr' : Array Slot} {nL : Nat} {ls : List (Option Value)} {n : Nat} {v : Value} (hlen : ls.length = nL) (h : lv_has arr' nL ((n, xm_v r v) :: (xm_pr r ls).filter (fun q => !(q.1 == n) && (!(q.1 == n + 1) && !(q.1 + 1 == n && q.2.category == 2))))) : xm_lh r arr' nL (xm_st2 ls n v) := by
  refine ⟨by unfold xm_st2; rw [List.length_set, xm_st1_len, hlen], h.1, h.2.1, fun j w hj => ?_⟩
  unfold xm_st2 at hj
  rw [List.getElem?_set] at hj
  by_cases hn1 : n + 1 = j
  · rw [if_pos hn1] at hj
    split at hj <;> cases hj
  · rw [if_neg hn1] at hj
    rcases xm_st1_get hj with ⟨rfl, rfl⟩ | ⟨hne, hg, hc⟩
    · exact h.2.2 _ List.mem_cons_self
    · refine h.2.2 (j, xm_v r w) (List.mem_cons_of_mem _ (List.mem_filter.mpr ⟨xm_pr_mem.mpr ⟨w, hg, rfl⟩, ?_⟩))
      simp only [Bool.and_eq_true, Bool.not_eq_true', beq_eq_false_iff_ne, ne_eq, Bool.and_eq_false_iff, xm_v_cat]
      refine ⟨hne, fun e => hn1 e.symm, ?_⟩
      by_cases h1 : j + 1 = n
      · exact Or.inr (fun e => hc ⟨h1, e⟩)
      · exact Or.inl h1
/-! words of the tables that a call may take along; the nest's words -/
def xm_isN (w : Cond) : Bool := match w with
  | .fieldLinkNest .. => true
  | .methodLinkNest .. => true
  | _ => false
def xm_tb : List Cond := lw_tbl.filter goodWord
theorem xm_good_tb : GoodIn xm_tb xm_tb := fun w hw => ⟨hw, good_of_word (List.mem_filter.mp hw).2⟩
def xm_sn (j : Nat) : Option String := match j with
  | 0 => some "LEAST"
  | 1 => some "MOST"
  | 2 => some "FIRST"
  | 3 => some "ABOVE"
  | 4 => some "OWN"
  | _ => none
def xm_ls (l : List Int32) : Nat → Int32 := fun j => l.getD j 0
/-- the class's own static arrays -/
def xm_st : xm_O := fun j => match j with
  | 0 => some (11, xm_ls [0, 0, 0, 0, 0, 0, 0, 0, 0, 1, 0])
  | 1 => some (11, xm_ls [9, 9999, 99, 3, 4, 1, 99, 99, 199, 99, 99])
  | 2 => some (11, xm_ls [5, 100, 30, 0, 0, 1, 10, 20, 0, 10, 10])
  | 3 => some (8, xm_ls [-1, 0, 0, 2, 1, 3, 0, 6])
  | 4 => some (32, xm_ls [1, 10, 11, 2, 20, 0, 0, 0, 0, 30, 0, 0, 0, 41, 40, 0, 0, 0, 0, 50, 0, 0, 60, 61, 70, 0, 0, 0, 81, 80, 0, 0])
  | _ => none
def xm_ty (cA : Nat → ClassId) : List (ClassId × FieldType) := [(cA 0, .int), (cA 1, .byte), (cA 2, .short), (cA 3, .long), (cA 4, .object RX5)]
/-- what stays as it was at a method's start: classes, arrays outside, statics, nest words -/
def xm_out (O : xm_O) (r : Nat → Nat) (A : Nat → Prop) (U : State) (H : Heap) : Prop :=
  (∀ (j L : Nat) (f : Nat → Int32), O j = some (L, f) → va_X (r (1000 + j)) L f U H ∧ r (1000 + j) < H.size ∧ ¬ A (r (1000 + j))) ∧
  (∀ (j : Nat) (n : String), xm_sn j = some n → va_Z RX8 n "[I" (.ref (r (1000 + j))) A U H) ∧ (∀ w ∈ lw_tbl, xm_isN w = true → va_Nw w U) ∧ va_AO RX5 U
def xm_ag (r r' : Nat → Nat) (n n' : Nat) : Prop := ∀ i, i < n ∨ n' ≤ i → r' i = r i
def xm_Pre (D : va_G) (cA : Nat → ClassId) (r : Nat → Nat) (sz : Nat) (h : xm_H) (U : State) : Prop :=
  U.heap.size = sz ∧ va_P D vwCl (xm_w cA r h) U.heap ∧ va_K D vwCl (xm_ty cA) U ∧ va_D (fun _ => True) (xm_w cA r h) ∧ xm_out xm_st r (va_A (xm_w cA r h) sz) U U.heap
def xm_Post (D : va_G) (cA : Nat → ClassId) (r : Nat → Nat) (sz mc : Nat) (h : xm_H) (P : Option Value → xm_H → Prop) (st : State) (oc : Outcome) (t : State) : Prop :=
  (∃ (r' : Nat → Nat) (v : Option Value) (h' : xm_H), oc = .returned (v.map (xm_v r')) ∧ P v h' ∧ xm_ag r r' h.length h'.length ∧ h.length ≤ h'.length ∧ h'.length ≤ h.length + mc ∧ va_P D vwCl (xm_w cA r' h') t.heap ∧ va_D (va_A (xm_w cA r h) sz) (xm_w cA r' h')) ∧ va_F (va_A (xm_w cA r h) sz) st t
def xm_ws (S : xm_S) : List Cond := .code S.1 S.2.1 S.2.2.1 S.2.2.2.1 :: xm_tb
def xm_rm (k : Nat) (S : xm_S) : Room := { frames := k + 1, cells := S.2.2.2.2.1, slots := S.2.2.2.2.2, locals := 64 * (k + 1) }
/-- THE CONTRACT: from the cells h the method S comes, within k frames, to its end with P of answer and cells -/
def xm_Cw (k : Nat) (S : xm_S) (av : List Value) (h : xm_H) (P : Option Value → xm_H → Prop) : Prop :=
  ∀ (l : Launch) (D : va_G) (cA : Nat → ClassId) (r : Nat → Nat) (sz : Nat), Met l S.1 (xm_ws S) (xm_rm k S) (va_Pc (av.map (xm_v r)) (xm_Pre D cA r sz h)) (fun _ st oc t => xm_Post D cA r sz S.2.2.2.2.1 h P st oc t) S.2.2.2.2.1 S.2.2.2.2.2 (va_A (xm_w cA r h) sz)
def xm_Call (K : Nat) (S : xm_S) (ro : Nat) (av : List Value) (h : xm_H) (P : Option Value → xm_H → Prop) : Prop :=
  (ro = 99 ∨ ∃ (b : Nat) (fs : List Value), av.head? = some (.ref b) ∧ h[b]? = some (.inr (ro, fs))) ∧ ∃ k, k < K ∧ xm_Cw k S av h P
/-! what comes behind a call -/
def xm_pi (g : Int32 → xm_H → Prop) (v : Option Value) (h : xm_H) : Prop := ∃ x, v = some (.int x) ∧ g x h
def xm_pl (g : Int64 → xm_H → Prop) (v : Option Value) (h : xm_H) : Prop := ∃ x, v = some (.long x) ∧ g x h
def xm_pv (g : xm_H → Prop) (v : Option Value) (h : xm_H) : Prop := v = none ∧ g h
def xm_pq (g0 : xm_H → Prop) (g : Nat → xm_H → Prop) (v : Option Value) (h : xm_H) : Prop := (v = some .null ∧ g0 h) ∨ ∃ x, v = some (.ref x) ∧ g x h
/-! reading stack and locals -/
def xm_1i (st : List Value) (f : Int32 → List Value → Prop) : Prop := match st with
  | .int x :: q => f x q
  | _ => False
def xm_2i (st : List Value) (f : Int32 → Int32 → List Value → Prop) : Prop := match st with
  | .int y :: .int x :: q => f x y q
  | _ => False
def xm_1l (st : List Value) (f : Int64 → List Value → Prop) : Prop := match st with
  | .long x :: q => f x q
  | _ => False
def xm_2l (st : List Value) (f : Int64 → Int64 → List Value → Prop) : Prop := match st with
  | .long y :: .long x :: q => f x y q
  | _ => False
def xm_1r (st : List Value) (f : Nat → List Value → Prop) : Prop := match st with
  | .ref x :: q => f x q
  | _ => False
def xm_1c (st : List Value) (f : Value → List Value → Prop) : Prop := match st with
  | .int x :: q => f (.int x) q
  | .ref x :: q => f (.ref x) q
  | .null :: q => f .null q
  | _ => False
def xm_li (ls : List (Option Value)) (n : Nat) (f : Int32 → Prop) : Prop := match ls[n]? with
  | some (some (.int x)) => f x
  | _ => False
def xm_ll (ls : List (Option Value)) (n : Nat) (f : Int64 → Prop) : Prop := match ls[n]? with
  | some (some (.long x)) => f x
  | _ => False
def xm_lr (ls : List (Option Value)) (n : Nat) (f : Value → Prop) : Prop := match ls[n]? with
  | some (some (.ref x)) => f (.ref x)
  | some (some .null) => f .null
  | _ => False
theorem xm_1i_e {st : List Value} {f : Int32 → List Value → Prop} (H : xm_1i st f) : ∃ x q, st = .int x :: q ∧ f x q := by
  unfold xm_1i at H; split at H
  · exact ⟨_, _, rfl, H⟩
  · exact H.elim
theorem xm_2i_e {st : List Value} {f : Int32 → Int32 → List Value → Prop} (H : xm_2i st f) : ∃ x y q, st = .int y :: .int x :: q ∧ f x y q := by
  unfold xm_2i at H; split at H
  · exact ⟨_, _, _, rfl, H⟩
  · exact H.elim
theorem xm_1l_e {st : List Value} {f : Int64 → List Value → Prop} (H : xm_1l st f) : ∃ x q, st = .long x :: q ∧ f x q := by
  unfold xm_1l at H; split at H
  · exact ⟨_, _, rfl, H⟩
  · exact H.elim
theorem xm_2l_e {st : List Value} {f : Int64 → Int64 → List Value → Prop} (H : xm_2l st f) : ∃ x y q, st = .long y :: .long x :: q ∧ f x y q := by
  unfold xm_2l at H; split at H
  · exact ⟨_, _, _, rfl, H⟩
  · exact H.elim
theorem xm_1r_e {st : List Value} {f : Nat → List Value → Prop} (H : xm_1r st f) : ∃ x q, st = .ref x :: q ∧ f x q := by
  unfold xm_1r at H; split at H
  · exact ⟨_, _, rfl, H⟩
  · exact H.elim
theorem xm_1c_e {st : List Value} {f : Value → List Value → Prop} (H : xm_1c st f) : ∃ v q, st = v :: q ∧ ((∃ x, v = .int x) ∨ (∃ x, v = .ref x) ∨ v = .null) ∧ f v q := by
  unfold xm_1c at H; split at H
  · exact ⟨_, _, rfl, Or.inl ⟨_, rfl⟩, H⟩
  · exact ⟨_, _, rfl, Or.inr (Or.inl ⟨_, rfl⟩), H⟩
  · exact ⟨_, _, rfl, Or.inr (Or.inr rfl), H⟩
  · exact H.elim
theorem xm_li_e {ls : List (Option Value)} {n : Nat} {f : Int32 → Prop} (H : xm_li ls n f) : ∃ x, ls[n]? = some (some (.int x)) ∧ f x := by
  unfold xm_li at H; split at H
  · next x hx => exact ⟨_, hx, H⟩
  · exact H.elim
theorem xm_ll_e {ls : List (Option Value)} {n : Nat} {f : Int64 → Prop} (H : xm_ll ls n f) : ∃ x, ls[n]? = some (some (.long x)) ∧ f x := by
  unfold xm_ll at H; split at H
  · next x hx => exact ⟨_, hx, H⟩
  · exact H.elim
theorem xm_lr_e {ls : List (Option Value)} {n : Nat} {f : Value → Prop} (H : xm_lr ls n f) : ∃ v, ls[n]? = some (some v) ∧ ((∃ x, v = .ref x) ∨ v = .null) ∧ f v := by
  unfold xm_lr at H; split at H
  · next x hx => exact ⟨_, hx, Or.inl ⟨_, rfl⟩, H⟩
  · next hx => exact ⟨_, hx, Or.inr rfl, H⟩
  · exact H.elim
