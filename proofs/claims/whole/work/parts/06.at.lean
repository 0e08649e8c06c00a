theorem xm_df_at (n : Nat) (ty : Nat → FieldType) (j : Nat) (hj : j < n) : defaultValue (ty j) = vp_V ((List.range n).map (fun j => defaultValue (ty j))) j := by
  unfold vp_V
  rw [List.getD_eq_getElem?_getD, List.getElem?_map, List.getElem?_range hj]
  rfl
def xm_ClsOk (a : Nat) (q : vw_C) : Prop := ∃ ty : Nat → FieldType, (∀ w ∈ u_ws q.1 q.2.1 q.2.2, w ∈ xm_tb) ∧ (∀ k, k < q.2.2 → parseFieldDescriptor (q.2.1 k).2.2.1 = some (ty k)) ∧ (∀ x, x < q.2.2 → ∀ y, y < q.2.2 → x ≠ y → (q.2.1 x).2.1 ≠ (q.2.1 y).2.1) ∧ (∀ j, j < q.2.2 → defaultValue (ty j) = vp_V (xm_df a) j)
theorem xm_cls_of {C : String} {T : u_T} {N : Nat} (ha : (u_ws C T N).all goodWord = true) (hi : ∀ w ∈ u_ws C T N, w ∈ lw_tbl) : ∀ w ∈ u_ws C T N, w ∈ xm_tb := fun w hw => List.mem_filter.mpr ⟨hi w hw, List.all_eq_true.mp ha w hw⟩
set_option maxRecDepth 100000 in
theorem xm_cls {a : Nat} {q : vw_C} (h : vwCl[a]? = some q) : xm_ClsOk a q := by
  match a, h with
  | 0, h => cases h; exact ⟨tyX0, xm_cls_of (by decide +kernel) xm_in0, tyX0_ok, nmX0, xm_df_at 3 tyX0⟩
  | 1, h => cases h; exact ⟨tyX1, xm_cls_of (by decide +kernel) xm_in1, tyX1_ok, nmX1, xm_df_at 5 tyX1⟩
  | 2, h => cases h; exact ⟨tyX2, xm_cls_of (by decide +kernel) xm_in2, tyX2_ok, nmX2, xm_df_at 5 tyX2⟩
  | 3, h => cases h; exact ⟨tyX3, xm_cls_of (by decide +kernel) xm_in3, tyX3_ok, nmX3, xm_df_at 5 tyX3⟩
  | 4, h => cases h; exact ⟨tyX4, xm_cls_of (by decide +kernel) xm_in4, tyX4_ok, nmX4, xm_df_at 11 tyX4⟩
  | 5, h => cases h; exact ⟨tyX5, xm_cls_of (by decide +kernel) xm_in5, tyX5_ok, nmX5, xm_df_at 4 tyX5⟩
  | 6, h => cases h; exact ⟨tyX6, xm_cls_of (by decide +kernel) xm_in6, tyX6_ok, nmX6, xm_df_at 3 tyX6⟩
  | 7, h => cases h; exact ⟨tyX7, xm_cls_of (by decide +kernel) xm_in7, tyX7_ok, nmX7, xm_df_at 2 tyX7⟩
  | 8, h => cases h; exact ⟨tyX8, xm_cls_of (by decide +kernel) xm_in8, tyX8_ok, nmX8, xm_df_at 13 tyX8⟩
  | 9, h => cases h; exact ⟨tyX9, xm_cls_of (by decide +kernel) xm_in9, tyX9_ok, nmX9, xm_df_at 58 tyX9⟩
  | n + 10, h => cases h
/-- the method's own surroundings -/
def xm_En (K : Nat) (S : xm_S) (own : String) (p : Program) (R : Room) (s : State) (m : MethodId) (args : Array Value) (meth : Method) (c : Code) : Prop :=
  p.tables.exec = Jvm.exec ∧ c.code = S.2.1 ∧ meth.sig.returnType = S.2.2.2.1 ∧ c.maxLocals = S.2.2.1 ∧ s.vm.findClass own = some m.cls ∧ (∀ w ∈ xm_tb, w.before args s = true) ∧ meth.locks = false ∧ (S.1.name = "<init>" → meth.name = "<init>") ∧ K + 1 ≤ R.frames ∧ 64 * (K + 1) ≤ R.locals ∧ S.2.2.2.2.1 ≤ R.cells ∧ S.2.2.2.2.2 ≤ R.slots
/-- pc is a return with this value -/
def xm_rt (S : xm_S) (pc : Nat) (v : Option Value) : Prop :=
  (∃ x, v = some (.int x) ∧ decode S.2.1 pc = .ok (.ireturn, 1) ∧ (S.2.2.2.1 = some .int ∨ (S.2.2.2.1 = some .boolean ∧ (x = 0 ∨ x = 1)))) ∨
  (∃ x, v = some (.long x) ∧ decode S.2.1 pc = .ok (.lreturn, 1) ∧ S.2.2.2.1 = some .long) ∨
  (v = none ∧ decode S.2.1 pc = .ok (.return_, 1) ∧ S.2.2.2.1 = none) ∨
  (∃ (n : String), S.2.2.2.1 = some (.object n) ∧ decode S.2.1 pc = .ok (.areturn, 1) ∧ (v = some .null ∨ ∃ a, v = some (.ref a)))
def xm_Fin (S : xm_S) (p : Program) (l : Launch) (e : Env) (R : Room) (s : State) (m : MethodId) (args : Array Value) (below : List Frame) (meth : Method) (c : Code) (Q : State → Prop) (D : va_G) (cA : Nat → ClassId) (r : Nat → Nat) (A : Nat → Prop) (uc n : Nat) (P : Option Value → xm_H → Prop) : Prop :=
  ∀ (pc' : Nat) (arr' : Array Slot) (H' : Heap) (locs' : List Loc) (uc' us' : Nat) (r' : Nat → Nat) (v : Option Value) (h' : xm_H), P v h' → xm_rt S pc' v → xm_ag r r' n h'.length → n ≤ h'.length → h'.length + uc ≤ n + uc' → uc' ≤ S.2.2.2.2.1 → us' ≤ S.2.2.2.2.2 → va_P D vwCl (xm_w cA r' h') H' → va_D A (xm_w cA r' h') → va_S A s.heap H' locs' → W p l e R s m args below meth c H' locs' uc' us' Q (F0 m pc' arr' (v.toList.map (xm_v r')))
/-- from row k of the method's table, with these locals, stack and cells, the method comes to its end with P -/
def xm_At (O : xm_O) (K : Nat) (S : xm_S) (own : String) (C : List xm_I) (k uc us : Nat) (ls : List (Option Value)) (st : List Value) (h : xm_H) (P : Option Value → xm_H → Prop) : Prop :=
  ∀ (p : Program) (l : Launch) (e : Env) (R : Room) (s : State) (m : MethodId) (args : Array Value) (below : List Frame) (meth : Method) (c : Code) (H : Heap) (locs : List Loc) (Q : State → Prop) (D : va_G) (cA : Nat → ClassId) (r : Nat → Nat) (A : Nat → Prop) (arr : Array Slot),
    xm_En K S own p R s m args meth c → va_K D vwCl (xm_ty cA) s → (∀ q, s.heap.size ≤ q → A q) → xm_out O r A s s.heap → va_P D vwCl (xm_w cA r h) H → va_D A (xm_w cA r h) → va_S A s.heap H locs → xm_lh r arr S.2.2.1 ls →
    xm_Fin S p l e R s m args below meth c Q D cA r A uc h.length P → uc ≤ S.2.2.2.2.1 → us ≤ S.2.2.2.2.2 →
    W p l e R s m args below meth c H locs uc us Q (F0 m (xm_pc C k) arr (st.map (xm_v r)))
theorem xm_A1 {cA : Nat → ClassId} {r : Nat → Nat} {h : xm_H} {A : Nat → Prop} {s : State} {H : Heap} {locs : List Loc} (hA : ∀ q, s.heap.size ≤ q → A q) (hD : va_D A (xm_w cA r h)) (hS : va_S A s.heap H locs) : ∀ q, va_A (xm_w cA r h) H.size q → A q := by
  intro q hq
  rcases hq with ⟨k, e, hk⟩ | hq
  · exact hD.2 k _ hk
  · exact hA q (Nat.le_trans hS.1 hq)
theorem xm_out_to {O : xm_O} (hO : ∀ j q, xm_st j = some q → O j = some q) {r : Nat → Nat} {A A1 : Nat → Prop} {s U : State} {H : Heap} {locs : List Loc} (ho : xm_out O r A s s.heap) (hS : va_S A s.heap H locs) (hW : s.WarmedH U.vm) (hU : U.heap = H) (hA : ∀ q, A1 q → A q) : xm_out xm_st r A1 U U.heap := by
  obtain ⟨h1, h2, h3, h4⟩ := ho
  rw [hU]
  refine ⟨fun j L f hj => ?_, fun j n hj => ?_, fun w hw hn => ?_, va_AO.moved hW.alike h4⟩
  · obtain ⟨a1, a2, a3⟩ := h1 j L f (hO j _ hj)
    exact ⟨(a1.kept (hS.2.1 _ a2 a3)).moved hW.alike, Nat.lt_of_lt_of_le a2 hS.1, fun q => a3 (hA _ q)⟩
  · exact (((h2 j n hj).kept (fun a ha hn => hS.2.1 a ha hn)).moved hW.alike).narrow hA
  · have hz := h3 w hw hn
    cases w <;> first | exact va_Nw.warmF hW hz | exact va_Nw.warmM hW hz | (cases hn)
theorem xm_blind (D : va_G) (cA : Nat → ClassId) (r : Nat → Nat) (sz : Nat) (h : xm_H) (av : List Value) : FrameBlind (va_Pc av (xm_Pre D cA r sz h)) := by
  intro a U g mk q
  obtain ⟨q0, q1, qP, qK, qD, o1, o2, o3, o4⟩ := q
  refine ⟨q0, q1, qP, va_K.moved (u := U) (U := U.calling g mk a) (Vm.Alike.refl U.vm) qK, qD, fun j L f hj => ?_, fun j n hj => ?_, fun w hw hn => ?_, ?_⟩
  · obtain ⟨a1, a2, a3⟩ := o1 j L f hj
    exact ⟨va_X.moved (u := U) (U := U.calling g mk a) (Vm.Alike.refl U.vm) a1, a2, a3⟩
  · exact va_Z.moved (u := U) (U := U.calling g mk a) (Vm.Alike.refl U.vm) (o2 j n hj)
  · exact va_Nw.same (by cases w <;> first | rfl | (cases hn)) (show U.vm = (U.calling g mk a).vm from rfl) (o3 w hw hn)
  · exact va_AO.moved (u := U) (U := U.calling g mk a) (Vm.Alike.refl U.vm) o4
theorem xm_pre_of {O : xm_O} (hO : ∀ j q, xm_st j = some q → O j = some q) {D : va_G} {cA : Nat → ClassId} {r : Nat → Nat} {h : xm_H} {A : Nat → Prop} {s : State} {H : Heap} {locs : List Loc} (hK : va_K D vwCl (xm_ty cA) s) (hA : ∀ q, s.heap.size ≤ q → A q) (ho : xm_out O r A s s.heap) (hP : va_P D vwCl (xm_w cA r h) H) (hD : va_D A (xm_w cA r h)) (hS : va_S A s.heap H locs) (av : List Value) (U : State) (hU : U.heap = H) (hW : s.WarmedH U.vm) : va_Pc av (xm_Pre D cA r H.size h) av.toArray U :=
  ⟨rfl, by rw [hU], by rw [hU]; exact hP, hK.moved hW.alike, hD.weaken (fun _ _ _ _ => trivial), xm_out_to hO ho hS hW hU (xm_A1 hA hD hS)⟩
section XMC
variable {p : Program} {l : Launch} {e : Env} {R : Room} {s : State} {m : MethodId} {args : Array Value} {below : List Frame} {meth : Method} {c : Code} {H : Heap} {locs : List Loc} {cells slots : Nat} {Q : State → Prop}
variable {pc : Nat} {ls : Array Slot} {rest st0 : List Value} {A0 A1 : Nat → Prop} {H0 : Heap} {mc ms : Nat} {free : Addr → Prop} {Qa : State → Outcome → State → Prop}
theorem xm_callGo (hr : va_Run p l e R s m args below meth c H locs cells slots mc ms (F0 m pc ls st0) rest Qa free) (hS : va_S A0 H0 H locs) (hA : ∀ q, q < H.size → A1 q → A0 q) (hf : ∀ q, free q → A0 q) (hQ : ∀ st oc t, Qa st oc t → va_F A1 st t)
    (kk : ∀ (v : Option Value) (st₀ t : State) (H1 : Heap) (locs1 : List Loc), st₀.heap = H → Qa st₀ (.returned v) t → t.heap = H1 → va_S A0 H0 H1 locs1 → W p l e R s m args below meth c H1 locs1 (cells + mc) (slots + ms) Q (F0 m (pc + 3) ls (v.toList ++ rest))) : W p l e R s m args below meth c H locs cells slots Q (F0 m pc ls st0) := by
  intro T hT X
  obtain ⟨v, st₀, t, T', L, h0, X', hL, e1, e2, hq, st⟩ := hr T hT X
  have hq0 := hq
  obtain ⟨hz, hk⟩ := hQ _ _ _ hq
  rw [h0] at hz hk
  obtain ⟨t2, a1, b1⟩ := kk v st₀ t T'.heap (locs ++ L) h0 hq0 e1.symm
    ⟨Nat.le_trans hS.1 (by rw [e1]; exact hz), fun q h1 h2 => by rw [e1, hk q (Nat.lt_of_lt_of_le h1 hS.1) (fun z => h2 (hA q (Nat.lt_of_lt_of_le h1 hS.1) z))]; exact hS.2.1 q h1 h2, fun q hq => by
      rcases List.mem_append.mp hq with h | h
      · exact hS.2.2 q h
      · exact hf _ (hL q h)⟩ T' rfl X'
  exact ⟨t2, st t2 a1, b1⟩
end XMC
