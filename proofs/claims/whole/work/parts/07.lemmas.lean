theorem xm_vv_ag {n : Nat} {r r' : Nat → Nat} (ha : ∀ i, i < n ∨ 1000 ≤ i → r' i = r i) {v : Value} (hv : xm_vv n v = true) : xm_v r' v = xm_v r v := by
  cases v with
  | ref k =>
    simp only [xm_vv, Bool.or_eq_true, decide_eq_true_eq] at hv
    show Value.ref (r' k) = Value.ref (r k)
    rw [ha k hv]
  | _ => rfl
theorem xm_ve_ag {cA : Nat → ClassId} {n : Nat} {r r' : Nat → Nat} (ha : ∀ i, i < n ∨ 1000 ≤ i → r' i = r i) {e : xm_E} (hv : xm_ve n e = true) : xm_e cA r' e = xm_e cA r e := by
  rcases e with ⟨t, m, f | f | f | f | f⟩ | ⟨ci, fs⟩
  · rfl
  · rfl
  · rfl
  · rfl
  · have hv' : (List.range m).all (fun j => match f j with
      | some k => decide (k < n)
      | none => true) = true := hv
    have h1 : (fun j => if j < m then (f j).map r' else none) = (fun j => if j < m then (f j).map r else none) := by
      funext j
      by_cases hj : j < m
      · rw [if_pos hj, if_pos hj]
        have h2 := List.all_eq_true.mp hv' j (List.mem_range.mpr hj)
        cases hf : f j with
        | none => rfl
        | some k =>
          rw [hf] at h2
          have hk : k < n := by simpa using h2
          show some (r' k) = some (r k)
          rw [ha k (Or.inl hk)]
      · rw [if_neg hj, if_neg hj]
    show Sum.inl (cA t, m, _) = Sum.inl (cA t, m, _)
    rw [h1]
  · have hv' : fs.all (xm_vv n) = true := hv
    show Sum.inr (ci, fs.map (xm_v r')) = Sum.inr (ci, fs.map (xm_v r))
    rw [List.map_congr_left (fun v hm => xm_vv_ag ha (List.all_eq_true.mp hv' v hm))]
theorem xm_w_ag {cA : Nat → ClassId} {r r' : Nat → Nat} {h : xm_H} (ha : ∀ i, i < h.length ∨ 1000 ≤ i → r' i = r i) (hv : h.all (xm_ve h.length) = true) : xm_w cA r' h = xm_w cA r h := by
  apply List.ext_getElem?
  intro i
  rw [xm_w_get, xm_w_get]
  cases he : h[i]? with
  | none => rfl
  | some e =>
    show some (r' i, xm_e cA r' e) = some (r i, xm_e cA r e)
    rw [ha i (Or.inl (List.getElem?_eq_some_iff.mp he).1), xm_ve_ag ha (List.all_eq_true.mp hv e (List.mem_of_getElem? he))]
theorem xm_lh_ag {r r' : Nat → Nat} {n : Nat} {arr : Array Slot} {nL : Nat} {ls : List (Option Value)} (ha : ∀ i, i < n ∨ 1000 ≤ i → r' i = r i) (hv : ls.all (xm_vo n) = true) (h : xm_lh r arr nL ls) : xm_lh r' arr nL ls := by
  refine ⟨h.1, h.2.1, h.2.2.1, fun i v hi => ?_⟩
  have h1 : xm_vv n v = true := List.all_eq_true.mp hv (some v) (List.mem_of_getElem? hi)
  rw [xm_vv_ag ha h1]
  exact h.2.2.2 i v hi
theorem xm_st_ag {r r' : Nat → Nat} {n : Nat} {st : List Value} (ha : ∀ i, i < n ∨ 1000 ≤ i → r' i = r i) (hv : st.all (xm_vv n) = true) : st.map (xm_v r') = st.map (xm_v r) := List.map_congr_left (fun v hm => xm_vv_ag ha (List.all_eq_true.mp hv v hm))
theorem xm_out_ag {O : xm_O} {r r' : Nat → Nat} {n : Nat} {A : Nat → Prop} {U : State} {H : Heap} (ha : ∀ i, i < n ∨ 1000 ≤ i → r' i = r i) (h : xm_out O r A U H) : xm_out O r' A U H := by
  have h1 : ∀ j, r' (1000 + j) = r (1000 + j) := fun j => ha _ (Or.inr (by omega))
  exact ⟨fun j L f hj => by rw [h1]; exact h.1 j L f hj, fun j n hj => by rw [h1]; exact h.2.1 j n hj, h.2.2.1, h.2.2.2⟩
theorem xm_fin_to {S : xm_S} {p : Program} {l : Launch} {e : Env} {R : Room} {s : State} {m : MethodId} {args : Array Value} {below : List Frame} {meth : Method} {c : Code} {Q : State → Prop} {D : va_G} {cA : Nat → ClassId} {r r1 : Nat → Nat} {A : Nat → Prop} {uc uc1 n n1 : Nat} {P : Option Value → xm_H → Prop} (fin : xm_Fin S p l e R s m args below meth c Q D cA r A uc n P) (ha : xm_ag r r1 n n1) (hn : n ≤ n1) (hu : n1 + uc ≤ n + uc1) : xm_Fin S p l e R s m args below meth c Q D cA r1 A uc1 n1 P := by
  intro pc' arr' H' locs' uc' us' r' v h' hp hrt hag hle hcu h1 h2 h3 h4 h5
  refine fin pc' arr' H' locs' uc' us' r' v h' hp hrt (fun i hi => ?_) (by omega) (by omega) h1 h2 h3 h4 h5
  rw [hag i (by omega), ha i (by omega)]
theorem xm_dv (r : Nat → Nat) (ty : FieldType) : xm_v r (defaultValue ty) = defaultValue ty := by cases ty <;> rfl
theorem xm_df_id (r : Nat → Nat) (a : Nat) : (xm_df a).map (xm_v r) = xm_df a := by
  unfold xm_df
  split <;> first | rfl | (rw [List.map_map]; exact List.map_congr_left (fun j _ => xm_dv r _))
theorem xm_take {st : List Value} {m : Nat} (hm : m ≤ st.length) : st = (st.take m).reverse.reverse ++ st.drop m := by rw [List.reverse_reverse, List.take_append_drop]
theorem xm_newid {U : State} {cA cB : ClassId} {ty : FieldType} (hty : ∀ C, ty ≠ .object C) (h1 : va_RA U cA ty) (h2 : va_RA U cB ty) : cA = cB := by
  cases ty <;> first | exact absurd rfl (hty _) | exact Option.some.inj (Eq.trans (Eq.symm h1) h2)
theorem xm_newidO {U : State} {cA cB : ClassId} {C : String} (h1 : va_RA U cA (.object C)) (h2 : va_RA U cB (.object C)) : cA = cB := by
  obtain ⟨_, _, _, _, _, a⟩ := h1
  obtain ⟨_, _, _, _, _, b⟩ := h2
  exact Option.some.inj (a.symm.trans b)
theorem xm_cut_at {cA : Nat → ClassId} {r : Nat → Nat} {h : xm_H} {i t : Nat} {x : vp_A} (he : h[i]? = some (.inl (t, x))) : (xm_w cA r h)[i]? = some (r i, .inl (cA t, xm_a r x)) := xm_w_at he
theorem xm_obj_at {cA : Nat → ClassId} {r : Nat → Nat} {h : xm_H} {i ci : Nat} {fs : List Value} (he : h[i]? = some (.inr (ci, fs))) : (xm_w cA r h)[i]? = some (r i, .inr (ci, fs.map (xm_v r))) := xm_w_at he
theorem xm_len_set (h : xm_H) (i : Nat) (e : xm_E) : (h.set i e).length = h.length := List.length_set ..
theorem xm_fl_e {a b : Nat} {f : String × String × String × Bool} (h : xm_fl a b = some f) : ∃ q : vw_C, vwCl[a]? = some q ∧ b < q.2.2 ∧ f = q.2.1 b := by
  unfold xm_fl at h
  split at h
  · next C T N he =>
    split at h
    · next hb => cases h; exact ⟨_, he, hb, rfl⟩
    · cases h
  · cases h
