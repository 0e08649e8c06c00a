def xm_cut (C : List xm_I) (k : Nat) : Option (List Bool) := match C[k]? with
  | some q => q.2.2.2.1
  | none => some []
/-- forgets all locals but these -/
def xm_kp : List Bool → List (Option Value) → List (Option Value)
  | true :: m, v :: r => v :: xm_kp m r
  | false :: m, _ :: r => none :: xm_kp m r
  | [], r => r
  | _ :: _, [] => []
theorem xm_kp_len : ∀ (m : List Bool) (ls : List (Option Value)), (xm_kp m ls).length = ls.length
  | true :: m, v :: r => by show (xm_kp m r).length + 1 = _; rw [xm_kp_len m r]; rfl
  | false :: m, _ :: r => by show (xm_kp m r).length + 1 = _; rw [xm_kp_len m r]; rfl
  | [], r => by cases r <;> rfl
  | true :: _, [] => rfl
  | false :: _, [] => rfl
theorem xm_kp_get : ∀ (m : List Bool) (ls : List (Option Value)) (i : Nat) (v : Value), (xm_kp m ls)[i]? = some (some v) → ls[i]? = some (some v)
  | true :: m, q :: r, 0, v, h => h
  | false :: m, _ :: r, 0, v, h => by cases h
  | true :: m, _ :: r, i + 1, v, h => xm_kp_get m r i v h
  | false :: m, _ :: r, i + 1, v, h => xm_kp_get m r i v h
  | [], [], i, v, h => h
  | [], q :: r, i, v, h => h
  | true :: _, [], i, v, h => by cases h
  | false :: _, [], i, v, h => by cases h
theorem xm_kp_lh {r : Nat → Nat} {arr : Array Slot} {nL : Nat} {ls : List (Option Value)} (live : List Bool) (h : xm_lh r arr nL ls) : xm_lh r arr nL (xm_kp live ls) :=
  ⟨by rw [xm_kp_len]; exact h.1, h.2.1, h.2.2.1, fun i v hi => h.2.2.2 i v (xm_kp_get live ls i v hi)⟩
theorem xm_kp_at {O : xm_O} {K : Nat} {S : xm_S} {own : String} {C : List xm_I} {k uc us : Nat} {ls : List (Option Value)} {st : List Value} {h : xm_H} {P : Option Value → xm_H → Prop} (live : List Bool) (H : xm_At O K S own C k uc us (xm_kp live ls) st h P) : xm_At O K S own C k uc us ls st h P := by
  intro p l e R s m args below meth c H' locs Q D cA r A arr h1 h2 h3 h4 h5 h6 h7 h8 h9
  exact H p l e R s m args below meth c H' locs Q D cA r A arr h1 h2 h3 h4 h5 h6 h7 (xm_kp_lh live h8) h9
/-- walks on from row k, n rows at most, up to rows that are marked -/
def xm_go (O : xm_O) (K : Nat) (S : xm_S) (own : String) (C : List xm_I) (P : Option Value → xm_H → Prop) : Nat → xm_K
  | 0 => fun k uc us ls st h => xm_At O K S own C k uc us ls st h P
  | n + 1 => fun k uc us ls st h => match C[k]? with
    | some q => xm_wp O K S q.2.1 q.2.2.2.2 k uc us ls st h P (fun k' uc' us' ls' st' h' => match xm_cut C k' with
      | some live => xm_At O K S own C k' uc' us' (xm_kp live ls') st' h' P
      | none => xm_go O K S own C P n k' uc' us' ls' st' h')
    | none => False
theorem xm_run {O : xm_O} (hO : ∀ j q, xm_st j = some q → O j = some q) {K : Nat} {S : xm_S} {own : String} {C : List xm_I} (hok : xm_ok S own C = true) {P : Option Value → xm_H → Prop} : ∀ (n k uc us : Nat) (ls : List (Option Value)) (st : List Value) (h : xm_H), xm_go O K S own C P n k uc us ls st h → xm_At O K S own C k uc us ls st h P := by
  intro n
  induction n with
  | zero => intro k uc us ls st h H; exact H
  | succ n ih =>
    intro k uc us ls st h H
    have H : (match C[k]? with
      | some q => xm_wp O K S q.2.1 q.2.2.2.2 k uc us ls st h P (fun k' uc' us' ls' st' h' => match xm_cut C k' with
        | some live => xm_At O K S own C k' uc' us' (xm_kp live ls') st' h' P
        | none => xm_go O K S own C P n k' uc' us' ls' st' h')
      | none => False) := H
    cases he : C[k]? with
    | none => rw [he] at H; exact H.elim
    | some q =>
      rw [he] at H
      obtain ⟨pc, i, len, b0, x⟩ := q
      refine xm_step hO hok he H ?_
      intro k' uc' us' ls' st' h' hg
      split at hg
      · exact xm_kp_at _ hg
      · exact ih _ _ _ _ _ _ hg
abbrev xm_L (K : Nat) (S : xm_S) (C : List xm_I) (k : Nat) (ls : List (Option Value)) (st : List Value) (h : xm_H) (P : Option Value → xm_H → Prop) : Prop := xm_At xm_st K S S.1.cls C k 0 0 ls st h P
/-! a method's start -/
def xm_l0 (av : List Value) : List (Option Value) := match av with
  | [] => []
  | .long x :: vs => some (.long x) :: none :: xm_l0 vs
  | .double x :: vs => some (.double x) :: none :: xm_l0 vs
  | v :: vs => some v :: xm_l0 vs
def xm_en (n : Nat) (av : List Value) : List (Option Value) := xm_l0 av ++ List.replicate (n - (xm_l0 av).length) none
theorem xm_l0_len (r : Nat → Nat) : ∀ av : List Value, (lg_sl (av.map (xm_v r))).length = (xm_l0 av).length
  | [] => rfl
  | v :: vs => by
    have ih := xm_l0_len r vs
    have h1 : lg_sl ((v :: vs).map (xm_v r)) = (if (xm_v r v).category = 2 then [.val (xm_v r v), .second] else [.val (xm_v r v)]) ++ lg_sl (vs.map (xm_v r)) := by
      unfold lg_sl; simp
    rw [h1, List.length_append, ih]
    cases v <;> simp [xm_l0, xm_v, Value.category] <;> omega
theorem xm_l0_mem (r : Nat → Nat) : ∀ (av : List Value) (b i : Nat) (v : Value), (xm_l0 av)[i]? = some (some v) → (b + i, xm_v r v) ∈ lv_args b (av.map (xm_v r))
  | [], b, i, v, h => by cases h
  | w :: vs, b, i, v, h => by
    have ih := xm_l0_mem r vs
    have h1 : lv_args b ((w :: vs).map (xm_v r)) = (b, xm_v r w) :: lv_args (if (xm_v r w).category = 2 then b + 2 else b + 1) (vs.map (xm_v r)) := rfl
    rw [h1]
    have key1 : xm_l0 (w :: vs) = some w :: xm_l0 vs → ¬ w.category = 2 → (b + i, xm_v r v) ∈ (b, xm_v r w) :: lv_args (if (xm_v r w).category = 2 then b + 2 else b + 1) (vs.map (xm_v r)) := by
      intro e hc
      rw [e] at h
      rw [if_neg (by rw [xm_v_cat]; exact hc)]
      cases i with
      | zero => cases h; exact List.mem_cons_self
      | succ i =>
        have := ih (b + 1) i v h
        rw [show b + (i + 1) = b + 1 + i by omega]
        exact List.mem_cons_of_mem _ this
    have key2 : xm_l0 (w :: vs) = some w :: none :: xm_l0 vs → w.category = 2 → (b + i, xm_v r v) ∈ (b, xm_v r w) :: lv_args (if (xm_v r w).category = 2 then b + 2 else b + 1) (vs.map (xm_v r)) := by
      intro e hc
      rw [e] at h
      rw [if_pos (by rw [xm_v_cat]; exact hc)]
      match i, h with
      | 0, h => cases h; exact List.mem_cons_self
      | 1, h => cases h
      | i + 2, h =>
        have := ih (b + 2) i v h
        rw [show b + (i + 2) = b + 2 + i by omega]
        exact List.mem_cons_of_mem _ this
    cases w <;> first | exact key1 rfl (by decide) | exact key2 rfl rfl | exact key1 rfl (fun e => by cases e)
theorem xm_en_lh (r : Nat → Nat) (av : List Value) (n : Nat) (hn : (xm_l0 av).length ≤ n) : xm_lh r ((lg_sl (av.map (xm_v r)) ++ List.replicate (n - (lg_sl (av.map (xm_v r))).length) Slot.unset).toArray) n (xm_en n av) := by
  have h1 := lv_entry (av.map (xm_v r)) (n := n) (by rw [xm_l0_len]; exact hn)
  refine ⟨by unfold xm_en; rw [List.length_append, List.length_replicate]; omega, h1.1, h1.2.1, fun i v hi => ?_⟩
  unfold xm_en at hi
  by_cases hl : i < (xm_l0 av).length
  · rw [List.getElem?_append_left hl] at hi
    have := xm_l0_mem r av 0 i v hi
    rw [Nat.zero_add] at this
    exact h1.2.2 _ this
  · rw [List.getElem?_append_right (by omega), List.getElem?_replicate] at hi
    split at hi <;> cases hi
theorem xm_ofW {l : Launch} {y : MethodName} {ws ws' : List Cond} {rm : Room} {Pc : Array Value → State → Prop} {Qc : Array Value → State → Outcome → State → Prop} {mc ms : Nat} {free : Addr → Prop} {cc : ByteArray} {maxL : Nat} {ret : Option FieldType} (hy : plainFor y = true) (hw : ws = Cond.code y cc maxL ret :: ws')
    (body : ∀ p e s m args below meth c s₁, BodyLoose p l y (headSpec ws rm) cc maxL ret e s m args below meth c s₁ → c.maxLocals = maxL → Pc args s → W p l e (headSpec ws rm).room s m args below meth c s.heap [] 0 0 (MQ below Qc args s mc ms free) (entryFrame m args maxL)) : Met l y ws rm Pc Qc mc ms free := by
  refine MetFree.of_bodySF (code := cc) (maxLocals := maxL) (ret := ret) hy (fun args s m h hn => ?_) (fun p e s m args below meth c s₁ B hml hP _ => ?_)
  · obtain ⟨meth, c, h1, h2, h3, h4, h5, h6, -, -⟩ := Cond.code_spec hn (atoms_spec (ws := ws) h _ (by rw [hw]; exact List.mem_cons_self))
    exact ⟨meth, c, h1, h2, h3, h4, h5, h6⟩
  · obtain ⟨t, a1, o, b1, b2, b3⟩ := body p e s m args below meth c s₁ B hml hP s₁ (by rw [B.state]; rfl) (Stand.of_body B)
    exact ⟨t, o, a1, b1, b2, ⟨b3.1, b3.2⟩⟩
set_option maxHeartbeats 1000000 in
theorem xm_enter {K : Nat} {S : xm_S} {C : List xm_I} (hpl : plainFor S.1 = true) (hp0 : xm_pc C 0 = 0) {av : List Value} (hn : (xm_l0 av).length ≤ S.2.2.1) {h : xm_H} {P : Option Value → xm_H → Prop} (H : xm_At xm_st K S S.1.cls C 0 0 0 (xm_en S.2.2.1 av) [] h P) : xm_Cw K S av h P := by
  intro l D cA r sz
  refine xm_ofW (cc := S.2.1) (maxL := S.2.2.1) (ret := S.2.2.2.1) hpl rfl ?_
  intro p e s m args below meth c s₁ B hml hv
  obtain ⟨rfl, hsz, hP, hK, hD0, ho⟩ := hv
  have hts := atoms_spec (ws := xm_ws S) B.pre
  subst hsz
  have hD := hD0.self (sz := s.heap.size)
  have hA : ∀ q : Nat, s.heap.size ≤ q → va_A (xm_w cA r h) s.heap.size q := fun q hq => Or.inr hq
  rw [lg_entry_eq]
  have hE : xm_En K S S.1.cls p (headSpec (xm_ws S) (xm_rm K S)).room s m (av.map (xm_v r)).toArray meth c :=
    ⟨B.exec, B.bytes, B.returns, hml, findClass_of_methodNamed B.named, fun w hw => hts w (List.mem_cons_of_mem _ hw), B.notSynchronized, fun hi => (name_of_methodNamed B.named B.method).1.trans hi, Nat.le_refl _, Nat.le_refl _, Nat.le_refl _, Nat.le_refl _⟩
  have hW := H p l e (headSpec (xm_ws S) (xm_rm K S)).room s m (av.map (xm_v r)).toArray below meth c s.heap [] (MQ below (fun _ st oc t => xm_Post D cA r s.heap.size S.2.2.2.2.1 h P st oc t) (av.map (xm_v r)).toArray s S.2.2.2.2.1 S.2.2.2.2.2 (va_A (xm_w cA r h) s.heap.size)) D cA r (va_A (xm_w cA r h) s.heap.size) _ hE hK hA ho hP hD va_S.rf (xm_en_lh r av S.2.2.1 hn) ?_ (Nat.zero_le _) (Nat.zero_le _)
  · rw [hp0] at hW
    exact hW
  · intro pc' arr' H' locs' uc' us' r' v h' hPv hrt hag hle hcu hu1 hu2 hP' hD' hS'
    refine W.widen (k := S.2.2.2.2.1) (n := S.2.2.2.2.2) hu1 hu2 ?_
    have hq : ∀ t : State, t.heap = H' → s.WarmedH t.vm → xm_Post D cA r s.heap.size S.2.2.2.2.1 h P s (.returned (v.map (xm_v r'))) t := fun t ht _ => ⟨⟨r', v, h', rfl, hPv, hag, hle, by omega, by rw [ht]; exact hP', hD'⟩, hS'.F ht⟩
    rcases hrt with ⟨x, rfl, hd, hr⟩ | ⟨x, rfl, hd, hr⟩ | ⟨rfl, hd, hr⟩ | ⟨n, hr, hd, hv⟩
    · rcases hr with hr | ⟨hr, hx01⟩
      · exact W.iret B.exec B.bytes (B.returns.trans hr) hq hS'.2.2 hd B.notSynchronized
      · exact W.zret B.exec B.bytes (B.returns.trans hr) (xm_nb hx01) hq hS'.2.2 hd B.notSynchronized
    · exact W.lret B.exec B.bytes (B.returns.trans hr) hq hS'.2.2 hd B.notSynchronized
    · exact W.vret B.exec B.bytes (B.returns.trans hr) hq hS'.2.2 hd B.notSynchronized
    · rcases hv with rfl | ⟨a, rfl⟩
      · exact W.aret (v := .null) B.exec B.bytes (B.returns.trans hr) (Or.inl ⟨_, rfl⟩) (Or.inl rfl) hq hS'.2.2 hd B.notSynchronized
      · exact W.aret (v := .ref (r' a)) B.exec B.bytes (B.returns.trans hr) (Or.inl ⟨_, rfl⟩) (Or.inr ⟨_, rfl⟩) hq hS'.2.2 hd B.notSynchronized
/-- a call's contract out of the walk -/
theorem xm_call_of {K K' : Nat} {S : xm_S} {C : List xm_I} (hK : K < K') (hpl : plainFor S.1 = true) (hp0 : xm_pc C 0 = 0) {ro : Nat} {av : List Value} (hn : (xm_l0 av).length ≤ S.2.2.1) {h : xm_H} {P : Option Value → xm_H → Prop} (hro : ro = 99 ∨ ∃ (b : Nat) (fs : List Value), av.head? = some (.ref b) ∧ h[b]? = some (.inr (ro, fs))) (H : xm_At xm_st K S S.1.cls C 0 0 0 (xm_en S.2.2.1 av) [] h P) : xm_Call K' S ro av h P := ⟨hro, K, hK, xm_enter hpl hp0 hn H⟩
/-! rows of tables -/
abbrev xm_no : xm_S := (⟨"", "", ""⟩, ⟨#[]⟩, 0, none, 0, 0)
abbrev i_0 (pc : Nat) (i : Instr) (len : Nat) (c : Option (List Bool)) : xm_I := (pc, i, len, c, 0, 0, [], 0, 0, [], xm_no)
abbrev i_v (pc : Nat) (i : Instr) (len : Nat) (c : Option (List Bool)) (v : Int32) (pl : List Nat) : xm_I := (pc, i, len, c, 0, 0, pl, v, 0, [], xm_no)
abbrev i_w (pc : Nat) (i : Instr) (len : Nat) (c : Option (List Bool)) (w : Int64) (pl : List Nat) : xm_I := (pc, i, len, c, 0, 0, pl, 0, w, [], xm_no)
abbrev i_j (pc : Nat) (i : Instr) (len : Nat) (c : Option (List Bool)) (a : Nat) : xm_I := (pc, i, len, c, a, 0, [], 0, 0, [], xm_no)
abbrev i_s (pc : Nat) (i : Instr) (len : Nat) (c : Option (List Bool)) (a : Nat) (sw : List (Int32 × Nat)) : xm_I := (pc, i, len, c, a, 0, [], 0, 0, sw, xm_no)
abbrev i_f (pc : Nat) (i : Instr) (len : Nat) (c : Option (List Bool)) (a b : Nat) (pl : List Nat) (v : Int32) : xm_I := (pc, i, len, c, a, b, pl, v, 0, [], xm_no)
abbrev i_m (pc : Nat) (i : Instr) (len : Nat) (c : Option (List Bool)) (a b : Nat) (pl : List Nat) (v : Int32) (T : xm_S) : xm_I := (pc, i, len, c, a, b, pl, v, 0, [], T)
