theorem xm_if {c : Prop} [Decidable c] {X : Prop} (H : if c then X else False) : c ∧ X := by
  by_cases hc : c
  · rw [if_pos hc] at H; exact ⟨hc, H⟩
  · rw [if_neg hc] at H; exact H.elim
theorem xm_ift {c : Prop} [Decidable c] {X Y : Prop} (H : if c then X else Y) (hc : c) : X := by rw [if_pos hc] at H; exact H
theorem xm_iff {c : Prop} [Decidable c] {X Y : Prop} (H : if c then X else Y) (hc : ¬ c) : Y := by rw [if_neg hc] at H; exact H
theorem xm_gf_e {h : xm_H} {o a b : Nat} {v : Int32} {f : Value → Prop} (H : xm_gf h o a b v f) : ∃ y, xm_fld h o a b = some y ∧ f y := by
  unfold xm_gf at H
  split at H
  · obtain ⟨x, h1, h2⟩ := H; exact ⟨_, h1, h2⟩
  · obtain ⟨x, h1, h2⟩ := H; exact ⟨_, h1, h2⟩
theorem xm_sw_tab {x : Int32} {d : Nat} {f : Nat → Prop} : ∀ (sw : List (Int32 × Nat)), xm_sw x sw d f → (∃ (j t : Nat), sw[j]? = some (x, t) ∧ f t) ∨ ((∀ q ∈ sw, q.1 ≠ x) ∧ f d)
  | [], H => Or.inr ⟨fun _ h => absurd h List.not_mem_nil, H⟩
  | q :: sw, H => by
    by_cases hq : x = q.1
    · exact Or.inl ⟨0, q.2, by rw [hq]; rfl, xm_ift H hq⟩
    · rcases xm_sw_tab sw (xm_iff H hq) with ⟨j, t, h1, h2⟩ | ⟨h1, h2⟩
      · exact Or.inl ⟨j + 1, t, h1, h2⟩
      · refine Or.inr ⟨fun y hy => ?_, h2⟩
        rcases List.mem_cons.mp hy with rfl | hy
        · exact fun e => hq e.symm
        · exact h1 y hy
theorem xm_sw_look {C : List xm_I} {x : Int32} {pc d : Nat} {dflt : Int} {f : Nat → Prop} (hd : (pc : Int) + dflt = (xm_pc C d : Int)) : ∀ (sw : List (Int32 × Nat)) (ps : List (Int × Int)), sw.map (fun q => (q.1.toInt, (xm_pc C q.2 : Int))) = ps.map (fun q => (q.1, (pc : Int) + q.2)) → xm_sw x sw d f → ∃ t, (pc : Int) + Op.lookupswitch.offset ps dflt x.toInt = (xm_pc C t : Int) ∧ f t
  | [], [], _, H => ⟨d, hd, H⟩
  | [], _ :: _, h, _ => by cases h
  | _ :: _, [], h, _ => by cases h
  | q :: sw, p :: ps, h, H => by
    simp only [List.map_cons, List.cons.injEq, Prod.mk.injEq] at h
    obtain ⟨⟨h1, h2⟩, h3⟩ := h
    show ∃ t, (pc : Int) + (if p.1 = x.toInt then p.2 else Op.lookupswitch.offset ps dflt x.toInt) = (xm_pc C t : Int) ∧ f t
    by_cases hq : x = q.1
    · refine ⟨q.2, ?_, xm_ift H hq⟩
      rw [if_pos (by rw [← h1, hq]), h2]
    · rw [if_neg (fun e => hq (Int32.toInt_inj.mp (by rw [h1, e])))]
      exact xm_sw_look hd sw ps h3 (xm_iff H hq)
theorem xm_nfw : nativeFrameWords "java/lang/System" "arraycopy" 5 ≤ 40 := by decide +kernel
theorem xm_nb {x : Int32} (h : x = 0 ∨ x = 1) : narrow .boolean (.int x) = .int x := by
  rcases h with rfl | rfl <;> decide
theorem xm_fb {x : Int32} (h : x = 0 ∨ x = 1) : fits .boolean (.int x) = true := by
  rcases h with rfl | rfl <;> decide
theorem xm_nr {ty : FieldType} (h : xm_ptO (some ty) = true) (x : Nat) : narrow ty (.ref x) = .ref x ∧ fits ty (.ref x) = true := by
  cases ty <;> first | (cases h; done) | exact ⟨rfl, rfl⟩
theorem xm_goodCall {T : xm_S} (h : xm_cw T ∈ xm_tb) : GoodIn xm_tb (xm_ws T) := by
  intro w hw
  rcases List.mem_cons.mp hw with rfl | hw
  · exact ⟨h, good_of_word (List.mem_filter.mp h).2⟩
  · exact xm_good_tb w hw
theorem xm_md_e {T : xm_S} {n : Nat} (h : xm_md T n = true) : T.1.cls ≠ "java/lang/invoke/MethodHandle" ∧ T.1.cls ≠ "java/lang/invoke/VarHandle" ∧ (parseMethodDescriptor T.1.desc).map (fun d => d.parameters.length) = some n := by
  unfold xm_md at h
  simp only [Bool.and_eq_true, decide_eq_true_eq] at h
  exact ⟨h.1.1, h.1.2, h.2⟩
/-- what a call brings back -/
theorem xm_af_e {rt : Option FieldType} {rest : List Value} {g : List Value → xm_H → Prop} {v : Option Value} {h : xm_H} (H : xm_af rt rest g v h) : g (v.toList ++ rest) h := by
  unfold xm_af at H
  split at H
  · obtain ⟨rfl, H⟩ := H; exact H
  · obtain ⟨x, rfl, H⟩ := H; exact H
  · obtain ⟨x, rfl, H⟩ := H; exact H
  · obtain ⟨x, rfl, H⟩ := H; exact H
  · rcases H with ⟨rfl, H⟩ | ⟨x, rfl, H⟩
    · exact H
    · exact H
  · exact H.elim
set_option maxHeartbeats 4000000 in
set_option maxRecDepth 100000 in
theorem xm_step {O : xm_O} (hO : ∀ j q, xm_st j = some q → O j = some q) {K : Nat} {S : xm_S} {own : String} {C : List xm_I} (hok : xm_ok S own C = true) {k pc : Nat} {i : Instr} {len : Nat} {b0 : Option (List Bool)} {x : xm_X} (he : C[k]? = some (pc, i, len, b0, x)) {uc us : Nat} {ls : List (Option Value)} {st : List Value} {h : xm_H} {P : Option Value → xm_H → Prop} {g : xm_K} (H0 : xm_wp O K S i x k uc us ls st h P g) (hg : ∀ k' uc' us' ls' st' h', g k' uc' us' ls' st' h' → xm_At O K S own C k' uc' us' ls' st' h' P) : xm_At O K S own C k uc us ls st h P := by
  have hck := xm_ok_e hok he
  have hpc : xm_pc C k = pc := by unfold xm_pc; rw [he]
  obtain ⟨a, b, pl, v, w, sw, T⟩ := x
  have hck : (((decide (decode S.2.1 pc = .ok (i, len)) && decide (xm_il i len = len)) && (xm_end i || (match C[k + 1]? with
    | some q => decide (q.1 = pc + len)
    | none => false))) && xm_lk S own C pc i (a, b, pl, v, w, sw, T)) = true := hck
  rw [Bool.and_eq_true, Bool.and_eq_true, Bool.and_eq_true, decide_eq_true_eq, decide_eq_true_eq] at hck
  obtain ⟨⟨⟨hdec, hlen⟩, hnx⟩, hlk⟩ := hck
  intro p l e R s m args below meth c H locs Q D cA r A arr hE hK hA ho hP hD hS hl fin huc hus
  have hE0 := hE
  obtain ⟨hx, hb, hr, hml, hown, hts, hlocks, hin, hfr, hlo, hcl, hsl⟩ := hE
  rw [hpc]
  have hnp : xm_end i = false → xm_pc C (k + 1) = pc + len := by
    intro h0
    rw [h0, Bool.false_or] at hnx
    unfold xm_pc
    split at hnx
    · next q hq => rw [hq]; simpa using hnx
    · cases hnx
  have go : ∀ (k' pc' : Nat) (ls' : List (Option Value)) (st' : List Value) (h' : xm_H) (H' : Heap) (locs' : List Loc) (arr' : Array Slot), g k' uc us ls' st' h' → xm_pc C k' = pc' → h'.length = h.length → va_P D vwCl (xm_w cA r h') H' → va_D A (xm_w cA r h') → va_S A s.heap H' locs' → xm_lh r arr' S.2.2.1 ls' → W p l e R s m args below meth c H' locs' uc us Q (F0 m pc' arr' (st'.map (xm_v r))) := by
    intro k' pc' ls' st' h' H' locs' arr' hg' hpc' hlen' hP' hD' hS' hl'
    subst hpc'
    refine hg _ _ _ _ _ _ hg' p l e R s m args below meth c H' locs' Q D cA r A arr' hE0 hK hA ho hP' hD' hS' hl' ?_ huc hus
    rw [hlen']
    exact fin
  have nx : xm_end i = false → ∀ (ls' : List (Option Value)) (st' : List Value) (arr' : Array Slot), g (k + 1) uc us ls' st' h → xm_lh r arr' S.2.2.1 ls' → W p l e R s m args below meth c H locs uc us Q (F0 m (pc + len) arr' (st'.map (xm_v r))) :=
    fun h0 ls' st' arr' hg' hl' => go (k + 1) (pc + len) ls' st' h H locs arr' hg' (hnp h0) rfl hP hD hS hl'
  have nh : xm_end i = false → ∀ (st' : List Value) (a1 : Nat) (e1 : xm_E) (H' : Heap) (locs' : List Loc), g (k + 1) uc us ls st' (h.set a1 e1) → va_P D vwCl ((xm_w cA r h).set a1 (r a1, xm_e cA r e1)) H' → va_D A ((xm_w cA r h).set a1 (r a1, xm_e cA r e1)) → va_S A s.heap H' locs' → W p l e R s m args below meth c H' locs' uc us Q (F0 m (pc + len) arr (st'.map (xm_v r))) := by
    intro h0 st' a1 e1 H' locs' hg' hP' hD' hS'
    rw [← xm_w_set] at hP' hD'
    exact go (k + 1) (pc + len) ls st' _ H' locs' arr hg' (hnp h0) (xm_len_set _ _ _) hP' hD' hS' hl
  have al : xm_end i = false → ∀ (q : Nat) (ls' : List (Option Value)) (st' : List Value) (e1 : xm_E) (us1 : Nat) (H' : Heap), uc + 1 ≤ S.2.2.2.2.1 → us1 ≤ S.2.2.2.2.2 → xm_va h ls st' 1 → (∀ r', xm_e cA r' e1 = xm_e cA r e1) → g (k + 1) (uc + 1) us1 ls (.ref h.length :: st') (h ++ [e1]) → va_P D vwCl (xm_w cA r h ++ [(q, xm_e cA r e1)]) H' → va_D A (xm_w cA r h ++ [(q, xm_e cA r e1)]) → va_S A s.heap H' locs → W p l e R s m args below meth c H' locs (uc + 1) us1 Q (F0 m (pc + len) arr (.ref q :: st'.map (xm_v r))) := by
    intro h0 q ls' st' e1 us1 H' hu1 hu2 hva hee hg' hP' hD' hS'
    obtain ⟨v1, v2, v3, v4⟩ := hva
    have ha : ∀ i, i < h.length ∨ 1000 ≤ i → (fun i => if i = h.length then q else r i) i = r i := by
      intro i hi
      exact if_neg (by omega)
    generalize hr' : (fun i => if i = h.length then q else r i) = r' at ha
    have hrq : r' h.length = q := by rw [← hr']; exact if_pos rfl
    have hw : xm_w cA r' (h ++ [e1]) = xm_w cA r h ++ [(q, xm_e cA r e1)] := by rw [xm_w_app, xm_w_ag ha v1, hrq, hee]
    have hst : (.ref q :: st'.map (xm_v r)) = (Value.ref h.length :: st').map (xm_v r') := by
      show _ = Value.ref (r' h.length) :: st'.map (xm_v r')
      rw [hrq, xm_st_ag ha v3]
    rw [hst, ← hnp h0]
    refine hg _ _ _ _ _ _ hg' p l e R s m args below meth c H' locs Q D cA r' A arr hE0 hK hA (xm_out_ag ha ho) (by rw [hw]; exact hP') (by rw [hw]; exact hD') hS' (xm_lh_ag ha v2 hl) ?_ hu1 hu2
    rw [show (h ++ [e1]).length = h.length + 1 by simp]
    exact xm_fin_to fin (fun i hi => by rw [← hr']; exact if_neg (by omega)) (by omega) (by omega)
  have cll : ∀ (m0 ro : Nat) (av rest : List Value), xm_end i = false → len = 3 → st = av.reverse ++ rest → xm_cl st m0 (fun _ _ => True) → av = (st.take m0).reverse → rest = st.drop m0 →
      (if T.2.2.2.2.1 = 0 then (if T.2.2.2.2.2 = 0 ∧ T.2.2.1 ≤ 45 then xm_Call K T ro av h (xm_af T.2.2.2.1 rest (fun st1 h1 => g (k + 1) uc us ls st1 h1)) else False)
        else (uc + T.2.2.2.2.1 ≤ S.2.2.2.2.1 ∧ us + T.2.2.2.2.2 ≤ S.2.2.2.2.2 ∧ T.2.2.1 ≤ 45) ∧ xm_va h ls rest T.2.2.2.2.1 ∧ xm_Call K T ro av h (xm_af T.2.2.2.1 rest (fun st1 h1 => g (k + 1) (uc + T.2.2.2.2.1) (us + T.2.2.2.2.2) ls st1 h1))) →
      (∀ (k0 : Nat) (P0 : Option Value → xm_H → Prop), k0 < K → T.2.2.1 ≤ 45 → uc + T.2.2.2.2.1 ≤ S.2.2.2.2.1 → us + T.2.2.2.2.2 ≤ S.2.2.2.2.2 → xm_Cw k0 T av h P0 → (ro = 99 ∨ ∃ (b : Nat) (fs : List Value), av.head? = some (.ref b) ∧ h[b]? = some (.inr (ro, fs))) → va_Run p l e R s m args below meth c H locs uc us T.2.2.2.2.1 T.2.2.2.2.2 (F0 m pc arr (st.map (xm_v r))) (rest.map (xm_v r)) (fun st oc t => xm_Post D cA r H.size T.2.2.2.2.1 h P0 st oc t) (va_A (xm_w cA r h) H.size)) →
      W p l e R s m args below meth c H locs uc us Q (F0 m pc arr (st.map (xm_v r))) := by
    intro m0 ro av rest h0 hl3 hst _ _ _ H1 hrun
    have hA1 := xm_A1 (cA := cA) (r := r) hA hD hS
    by_cases hm0 : T.2.2.2.2.1 = 0
    · obtain ⟨⟨hms0, b3⟩, H2⟩ := xm_if (xm_ift H1 hm0)
      have b1 : uc + T.2.2.2.2.1 ≤ S.2.2.2.2.1 := by omega
      have b2 : us + T.2.2.2.2.2 ≤ S.2.2.2.2.2 := by omega
      obtain ⟨hro, k0, hk0, hcw⟩ := H2
      refine xm_callGo (A0 := A) (A1 := va_A (xm_w cA r h) H.size) (hrun k0 _ hk0 b3 b1 b2 hcw hro) hS (fun q _ => hA1 q) hA1 (fun _ _ _ h => h.2) ?_
      intro v0 st0 t H1' locs1 hs0 hq ht hS1
      obtain ⟨⟨r', v1, h1, e1, e2, e3, e4, e5, e6, e7⟩, -⟩ := hq
      have hv0 : v0 = v1.map (xm_v r') := by injection e1
      rw [hm0] at e5
      have hrr : r' = r := funext (fun i => e3 i (by omega))
      subst hrr
      have e2' := xm_af_e e2
      rw [hv0, hm0, hms0]
      have hstk : (v1.map (xm_v r')).toList ++ rest.map (xm_v r') = (v1.toList ++ rest).map (xm_v r') := by cases v1 <;> simp
      rw [hstk, ← hl3, ← hnp h0]
      refine hg _ _ _ _ _ _ e2' p l e R s m args below meth c H1' locs1 Q D cA r' A arr hE0 hK hA ho (by rw [← ht]; exact e6) (e7.weaken (fun _ _ _ z => hA1 _ z)) hS1 hl ?_ huc hus
      rw [show h1.length = h.length by omega]
      exact fin
    · have H2 := xm_iff H1 hm0
      obtain ⟨⟨b1, b2, b3⟩, ⟨v1', v2', v3', v4'⟩, hro, k0, hk0, hcw⟩ := H2
      refine xm_callGo (A0 := A) (A1 := va_A (xm_w cA r h) H.size) (hrun k0 _ hk0 b3 b1 b2 hcw hro) hS (fun q _ => hA1 q) hA1 (fun _ _ _ h => h.2) ?_
      intro v0 st0 t H1' locs1 hs0 hq ht hS1
      obtain ⟨⟨r', v1, h1, e1, e2, e3, e4, e5, e6, e7⟩, -⟩ := hq
      have hv0 : v0 = v1.map (xm_v r') := by injection e1
      have ha : ∀ i, i < h.length ∨ 1000 ≤ i → r' i = r i := fun i hi => e3 i (by omega)
      have e2' := xm_af_e e2
      rw [hv0]
      have hstk : (v1.map (xm_v r')).toList ++ rest.map (xm_v r) = (v1.toList ++ rest).map (xm_v r') := by rw [List.map_append, xm_st_ag ha v3']; cases v1 <;> simp
      rw [hstk, ← hl3, ← hnp h0]
      refine hg _ _ _ _ _ _ e2' p l e R s m args below meth c H1' locs1 Q D cA r' A arr hE0 hK hA (xm_out_ag ha ho) (by rw [← ht]; exact e6) (e7.weaken (fun _ _ _ z => hA1 _ z)) hS1 (xm_lh_ag ha v2' hl) ?_ b1 b2
      exact xm_fin_to fin e3 e4 (by omega)
  cases i
  case iconst n =>
    have h1 : 1 = len := hlen
    subst h1
    exact lv_iconst hx hb hdec (of_decide_eq_true hlk) (nx rfl ls (.int v :: st) arr H0 hl)
  case bipush n =>
    have h1 : 2 = len := hlen
    subst h1
    exact lv_bipush hx hb hdec (of_decide_eq_true hlk) (nx rfl ls (.int v :: st) arr H0 hl)
  case sipush n =>
    have h1 : 3 = len := hlen
    subst h1
    exact lv_sipush hx hb hdec (of_decide_eq_true hlk) (nx rfl ls (.int v :: st) arr H0 hl)
  case ldc j =>
    have h1 : 2 = len := hlen
    subst h1
    exact lv_ldc hx hb hown (hts _ (xm_w1_e (w := .constant own j v) hlk)) hdec (nx rfl ls (.int v :: st) arr H0 hl)
  case ldc_w j =>
    have h1 : 3 = len := hlen
    subst h1
    exact lv_ldcw hx hb hown (hts _ (xm_w1_e (w := .constant own j v) hlk)) hdec (nx rfl ls (.int v :: st) arr H0 hl)
  case ldc2_w j =>
    have h1 : 3 = len := hlen
    subst h1
    exact lv_ldc2 hx hb hown (hts _ (xm_w1_e (w := .constantLong own j w) hlk)) hdec (nx rfl ls (.long w :: st) arr H0 hl)
  case lconst n =>
    have h1 : 1 = len := hlen
    subst h1
    exact lv_lconst hx hb hdec (of_decide_eq_true hlk) (nx rfl ls (.long w :: st) arr H0 hl)
  case aconst_null =>
    have h1 : 1 = len := hlen
    subst h1
    exact lv_null hx hb hdec (nx rfl ls (.null :: st) arr H0 hl)
  case iload_n n =>
    have h1 : 1 = len := hlen
    subst h1
    obtain ⟨y, hy, HA1⟩ := xm_li_e H0
    exact lv_iload_n hx hb hdec rfl (hl.2.2.2 _ _ hy) (nx rfl ls (.int y :: st) arr HA1 hl)
  case iload n =>
    have h1 : 2 = len := hlen
    subst h1
    obtain ⟨y, hy, HA1⟩ := xm_li_e H0
    exact lv_iload hx hb hdec (hl.2.2.2 _ _ hy) (nx rfl ls (.int y :: st) arr HA1 hl)
  case lload_n n =>
    have h1 : 1 = len := hlen
    subst h1
    obtain ⟨y, hy, HA1⟩ := xm_ll_e H0
    exact lv_lload_n hx hb hdec rfl (hl.2.2.2 _ _ hy) (nx rfl ls (.long y :: st) arr HA1 hl)
  case lload n =>
    have h1 : 2 = len := hlen
    subst h1
    obtain ⟨y, hy, HA1⟩ := xm_ll_e H0
    exact lv_lload hx hb hdec (hl.2.2.2 _ _ hy) (nx rfl ls (.long y :: st) arr HA1 hl)
  case aload_n n =>
    have h1 : 1 = len := hlen
    subst h1
    simp only [xm_wp] at H0
    obtain ⟨y, hy, hk, HA1⟩ := xm_lr_e H0
    rcases hk with ⟨z, rfl⟩ | rfl
    · exact lv_aload_n hx hb hdec rfl (hl.2.2.2 _ _ hy) (nx rfl ls (.ref z :: st) arr HA1 hl)
    · exact lv_aload_nN hx hb hdec rfl (hl.2.2.2 _ _ hy) (nx rfl ls (.null :: st) arr HA1 hl)
  case aload n =>
    have h1 : 2 = len := hlen
    subst h1
    simp only [xm_wp] at H0
    obtain ⟨y, hy, hk, HA1⟩ := xm_lr_e H0
    rcases hk with ⟨z, rfl⟩ | rfl
    · exact lv_aload hx hb hdec (hl.2.2.2 _ _ hy) (nx rfl ls (.ref z :: st) arr HA1 hl)
    · exact lv_aloadN hx hb hdec (hl.2.2.2 _ _ hy) (nx rfl ls (.null :: st) arr HA1 hl)
  case istore_n n =>
    have h1 : 1 = len := hlen
    subst h1
    obtain ⟨y, q, rfl, HA1⟩ := xm_1i_e H0
    obtain ⟨hn, HA2⟩ := xm_if HA1
    exact lv_istore_n (x := y) (lv := xm_pr r ls) hx hb hdec rfl (xm_lh_has hl) (by rw [← hl.1]; exact hn) rfl (fun arr' hl' => nx rfl _ q arr' HA2 (xm_lh_st1 (v := .int y) hl.1 hl'))
  case istore n =>
    have h1 : 2 = len := hlen
    subst h1
    obtain ⟨y, q, rfl, HA1⟩ := xm_1i_e H0
    obtain ⟨hn, HA2⟩ := xm_if HA1
    exact lv_istore (x := y) (lv := xm_pr r ls) hx hb hdec (xm_lh_has hl) (by rw [← hl.1]; exact hn) rfl (fun arr' hl' => nx rfl _ q arr' HA2 (xm_lh_st1 (v := .int y) hl.1 hl'))
  case lstore n =>
    have h1 : 2 = len := hlen
    subst h1
    obtain ⟨y, q, rfl, HA1⟩ := xm_1l_e H0
    obtain ⟨hn, HA2⟩ := xm_if HA1
    exact lv_lstore (x := y) (lv := xm_pr r ls) hx hb hdec (xm_lh_has hl) (by rw [← hl.1]; exact hn) rfl (fun arr' hl' => nx rfl _ q arr' HA2 (xm_lh_st2 (v := .long y) hl.1 hl'))
  case astore_n n =>
    have h1 : 1 = len := hlen
    subst h1
    simp only [xm_wp] at H0
    obtain ⟨y, q, rfl, hk, HA1⟩ := xm_1q_e H0
    obtain ⟨hn, HA2⟩ := xm_if HA1
    rcases hk with ⟨z, rfl⟩ | rfl
    · exact lv_astore_n (x := r z) (lv := xm_pr r ls) hx hb hdec rfl (xm_lh_has hl) (by rw [← hl.1]; exact hn) rfl (fun arr' hl' => nx rfl _ q arr' HA2 (xm_lh_st1 (v := .ref z) hl.1 hl'))
    · exact lv_astore_nN (lv := xm_pr r ls) hx hb hdec rfl (xm_lh_has hl) (by rw [← hl.1]; exact hn) rfl (fun arr' hl' => nx rfl _ q arr' HA2 (xm_lh_st1 (v := .null) hl.1 hl'))
  case astore n =>
    have h1 : 2 = len := hlen
    subst h1
    simp only [xm_wp] at H0
    obtain ⟨y, q, rfl, hk, HA1⟩ := xm_1q_e H0
    obtain ⟨hn, HA2⟩ := xm_if HA1
    rcases hk with ⟨z, rfl⟩ | rfl
    · exact lv_astore (x := r z) (lv := xm_pr r ls) hx hb hdec (xm_lh_has hl) (by rw [← hl.1]; exact hn) rfl (fun arr' hl' => nx rfl _ q arr' HA2 (xm_lh_st1 (v := .ref z) hl.1 hl'))
    · exact lv_astoreN (lv := xm_pr r ls) hx hb hdec (xm_lh_has hl) (by rw [← hl.1]; exact hn) rfl (fun arr' hl' => nx rfl _ q arr' HA2 (xm_lh_st1 (v := .null) hl.1 hl'))
  case iinc n n2 =>
    have h1 : 3 = len := hlen
    subst h1
    obtain ⟨y, hy, HA1⟩ := xm_li_e H0
    have hv : Int32.ofInt n2 = v := of_decide_eq_true hlk
    obtain ⟨kk, hkk⟩ := List.mem_iff_getElem?.mp (xm_pr_mem.mpr ⟨.int y, hy, rfl⟩ : (n, xm_v r (.int y)) ∈ xm_pr r ls)
    exact lv_iinc (x := y) (v := y + v) (lv := xm_pr r ls) hx hb hdec (xm_lh_has hl) hkk (by rw [hv]) (by rw [← hl.1]; exact (List.getElem?_eq_some_iff.mp hy).1) rfl (fun arr' hl' => nx rfl _ st arr' HA1 (xm_lh_st1 (v := .int (y + v)) hl.1 hl'))
  case iadd =>
    have h1 : 1 = len := hlen
    subst h1
    obtain ⟨x, y, q, rfl, HA1⟩ := xm_2i_e H0
    exact lv_iadd hx hb hdec (nx rfl ls (_ :: q) arr HA1 hl)
  case isub =>
    have h1 : 1 = len := hlen
    subst h1
    obtain ⟨x, y, q, rfl, HA1⟩ := xm_2i_e H0
    exact lv_isub hx hb hdec (nx rfl ls (_ :: q) arr HA1 hl)
  case imul =>
    have h1 : 1 = len := hlen
    subst h1
    obtain ⟨x, y, q, rfl, HA1⟩ := xm_2i_e H0
    exact lv_imul hx hb hdec (nx rfl ls (_ :: q) arr HA1 hl)
  case iand =>
    have h1 : 1 = len := hlen
    subst h1
    obtain ⟨x, y, q, rfl, HA1⟩ := xm_2i_e H0
    exact lv_iand hx hb hdec (nx rfl ls (_ :: q) arr HA1 hl)
  case ior =>
    have h1 : 1 = len := hlen
    subst h1
    obtain ⟨x, y, q, rfl, HA1⟩ := xm_2i_e H0
    exact lv_ior hx hb hdec (nx rfl ls (_ :: q) arr HA1 hl)
  case ixor =>
    have h1 : 1 = len := hlen
    subst h1
    obtain ⟨x, y, q, rfl, HA1⟩ := xm_2i_e H0
    exact lv_ixor hx hb hdec (nx rfl ls (_ :: q) arr HA1 hl)
  case ishl =>
    have h1 : 1 = len := hlen
    subst h1
    obtain ⟨x, y, q, rfl, HA1⟩ := xm_2i_e H0
    exact lv_ishl hx hb hdec (nx rfl ls (_ :: q) arr HA1 hl)
  case ishr =>
    have h1 : 1 = len := hlen
    subst h1
    obtain ⟨x, y, q, rfl, HA1⟩ := xm_2i_e H0
    exact lv_ishr hx hb hdec (nx rfl ls (_ :: q) arr HA1 hl)
  case iushr =>
    have h1 : 1 = len := hlen
    subst h1
    obtain ⟨x, y, q, rfl, HA1⟩ := xm_2i_e H0
    exact lv_iushr hx hb hdec rfl (nx rfl ls (_ :: q) arr HA1 hl)
  case idiv =>
    have h1 : 1 = len := hlen
    subst h1
    obtain ⟨x, y, q, rfl, hne, HA1⟩ := xm_2i_e H0
    exact lv_idiv hx hb hdec hne (nx rfl ls (_ :: q) arr HA1 hl)
  case irem =>
    have h1 : 1 = len := hlen
    subst h1
    obtain ⟨x, y, q, rfl, hne, HA1⟩ := xm_2i_e H0
    exact lv_irem hx hb hdec hne (nx rfl ls (_ :: q) arr HA1 hl)
  case ineg =>
    have h1 : 1 = len := hlen
    subst h1
    obtain ⟨x, q, rfl, HA1⟩ := xm_1i_e H0
    exact lv_ineg hx hb hdec (nx rfl ls (_ :: q) arr HA1 hl)
  case ladd =>
    have h1 : 1 = len := hlen
    subst h1
    obtain ⟨x, y, q, rfl, HA1⟩ := xm_2l_e H0
    exact lv_ladd hx hb hdec (nx rfl ls (_ :: q) arr HA1 hl)
  case land =>
    have h1 : 1 = len := hlen
    subst h1
    obtain ⟨x, y, q, rfl, HA1⟩ := xm_2l_e H0
    exact lv_land hx hb hdec (nx rfl ls (_ :: q) arr HA1 hl)
  case lor =>
    have h1 : 1 = len := hlen
    subst h1
    obtain ⟨x, y, q, rfl, HA1⟩ := xm_2l_e H0
    exact lv_lor hx hb hdec (nx rfl ls (_ :: q) arr HA1 hl)
  case lshl =>
    have h1 : 1 = len := hlen
    subst h1
    obtain ⟨y, q, rfl, HA1⟩ := xm_1i_e H0
    obtain ⟨x, q, rfl, HA2⟩ := xm_1l_e HA1
    exact lv_lshl hx hb hdec rfl (nx rfl ls (_ :: q) arr HA2 hl)
  case lcmp =>
    have h1 : 1 = len := hlen
    subst h1
    obtain ⟨x, y, q, rfl, HA1⟩ := xm_2l_e H0
    exact W.lcmp hx hb hdec (nx rfl ls (_ :: q) arr HA1 hl)
  case i2l =>
    have h1 : 1 = len := hlen
    subst h1
    obtain ⟨x, q, rfl, HA1⟩ := xm_1i_e H0
    exact lv_i2l hx hb hdec rfl (nx rfl ls (_ :: q) arr HA1 hl)
  case l2i =>
    have h1 : 1 = len := hlen
    subst h1
    obtain ⟨x, q, rfl, HA1⟩ := xm_1l_e H0
    exact lv_l2i hx hb hdec rfl (nx rfl ls (_ :: q) arr HA1 hl)
  case i2b =>
    have h1 : 1 = len := hlen
    subst h1
    obtain ⟨x, q, rfl, HA1⟩ := xm_1i_e H0
    exact lv_i2b hx hb hdec rfl (nx rfl ls (_ :: q) arr HA1 hl)
  case i2s =>
    have h1 : 1 = len := hlen
    subst h1
    obtain ⟨x, q, rfl, HA1⟩ := xm_1i_e H0
    exact lv_i2s hx hb hdec rfl (nx rfl ls (_ :: q) arr HA1 hl)
  case dup =>
    have h1 : 1 = len := hlen
    subst h1
    simp only [xm_wp] at H0
    obtain ⟨y, q, rfl, hk, HA1⟩ := xm_1c_e H0
    exact lv_dup hx hb hdec (by rw [xm_v_cat]; rcases hk with ⟨z, rfl⟩ | ⟨z, rfl⟩ | rfl <;> rfl) (nx rfl ls (y :: y :: q) arr HA1 hl)
  case pop =>
    have h1 : 1 = len := hlen
    subst h1
    simp only [xm_wp] at H0
    obtain ⟨y, q, rfl, hk, HA1⟩ := xm_1c_e H0
    exact lv_pop hx hb hdec (by rw [xm_v_cat]; rcases hk with ⟨z, rfl⟩ | ⟨z, rfl⟩ | rfl <;> rfl) (nx rfl ls q arr HA1 hl)
  case dup2 =>
    have h1 : 1 = len := hlen
    subst h1
    simp only [xm_wp] at H0
    obtain ⟨y, q, rfl, hk, HA1⟩ := xm_1c_e H0
    obtain ⟨z, q, rfl, hk2, HA2⟩ := xm_1c_e HA1
    exact lv_dup2_11 hx hb hdec (by rw [xm_v_cat]; rcases hk with ⟨z, rfl⟩ | ⟨z, rfl⟩ | rfl <;> rfl) (by rw [xm_v_cat]; rcases hk2 with ⟨z, rfl⟩ | ⟨z, rfl⟩ | rfl <;> rfl) (nx rfl ls (y :: z :: y :: z :: q) arr HA2 hl)
  case ifCond cc off =>
    have h1 : 3 = len := hlen
    subst h1
    cases cc
    case eq =>
      obtain ⟨x, q, rfl, H0⟩ := xm_1i_e H0
      exact lv_if_eq hx hb hdec (of_decide_eq_true hlk) (fun hc => go a _ ls q h H locs arr (xm_ift H0 hc) rfl rfl hP hD hS hl) (fun hc => nx rfl ls q arr (xm_iff H0 hc) hl)
    case ne =>
      obtain ⟨x, q, rfl, H0⟩ := xm_1i_e H0
      exact lv_if_ne hx hb hdec (of_decide_eq_true hlk) (fun hc => go a _ ls q h H locs arr (xm_iff H0 hc) rfl rfl hP hD hS hl) (fun hc => nx rfl ls q arr (xm_ift H0 hc) hl)
    case lt =>
      obtain ⟨x, q, rfl, H0⟩ := xm_1i_e H0
      exact lv_if_lt hx hb hdec (of_decide_eq_true hlk) (fun hc => go a _ ls q h H locs arr (xm_ift H0 hc) rfl rfl hP hD hS hl) (fun hc => nx rfl ls q arr (xm_iff H0 hc) hl)
    case ge =>
      obtain ⟨x, q, rfl, H0⟩ := xm_1i_e H0
      exact lv_if_ge hx hb hdec (of_decide_eq_true hlk) (fun hc => go a _ ls q h H locs arr (xm_iff H0 (Int32.not_lt.mpr hc)) rfl rfl hP hD hS hl) (fun hc => nx rfl ls q arr (xm_ift H0 (Int32.not_le.mp hc)) hl)
    case gt =>
      obtain ⟨x, q, rfl, H0⟩ := xm_1i_e H0
      exact lv_if_gt hx hb hdec (of_decide_eq_true hlk) (fun hc => go a _ ls q h H locs arr (xm_ift H0 hc) rfl rfl hP hD hS hl) (fun hc => nx rfl ls q arr (xm_iff H0 hc) hl)
    case le =>
      obtain ⟨x, q, rfl, H0⟩ := xm_1i_e H0
      exact lv_if_le hx hb hdec (of_decide_eq_true hlk) (fun hc => go a _ ls q h H locs arr (xm_iff H0 (Int32.not_lt.mpr hc)) rfl rfl hP hD hS hl) (fun hc => nx rfl ls q arr (xm_ift H0 (Int32.not_le.mp hc)) hl)
  case if_icmp cc off =>
    have h1 : 3 = len := hlen
    subst h1
    cases cc
    case eq =>
      obtain ⟨x, y, q, rfl, H0⟩ := xm_2i_e H0
      exact lv_icmp_eq hx hb hdec (of_decide_eq_true hlk) (fun hc => go a _ ls q h H locs arr (xm_ift H0 hc) rfl rfl hP hD hS hl) (fun hc => nx rfl ls q arr (xm_iff H0 hc) hl)
    case ne =>
      obtain ⟨x, y, q, rfl, H0⟩ := xm_2i_e H0
      exact lv_icmp_ne hx hb hdec (of_decide_eq_true hlk) (fun hc => go a _ ls q h H locs arr (xm_iff H0 hc) rfl rfl hP hD hS hl) (fun hc => nx rfl ls q arr (xm_ift H0 hc) hl)
    case lt =>
      obtain ⟨x, y, q, rfl, H0⟩ := xm_2i_e H0
      exact lv_icmp_lt hx hb hdec (of_decide_eq_true hlk) (fun hc => go a _ ls q h H locs arr (xm_ift H0 hc) rfl rfl hP hD hS hl) (fun hc => nx rfl ls q arr (xm_iff H0 hc) hl)
    case ge =>
      obtain ⟨x, y, q, rfl, H0⟩ := xm_2i_e H0
      exact lv_icmp_ge hx hb hdec (of_decide_eq_true hlk) (fun hc => go a _ ls q h H locs arr (xm_iff H0 (Int32.not_lt.mpr hc)) rfl rfl hP hD hS hl) (fun hc => nx rfl ls q arr (xm_ift H0 (Int32.not_le.mp hc)) hl)
    case gt =>
      obtain ⟨x, y, q, rfl, H0⟩ := xm_2i_e H0
      exact lv_icmp_gt hx hb hdec (of_decide_eq_true hlk) (fun hc => go a _ ls q h H locs arr (xm_ift H0 hc) rfl rfl hP hD hS hl) (fun hc => nx rfl ls q arr (xm_iff H0 hc) hl)
    case le =>
      obtain ⟨x, y, q, rfl, H0⟩ := xm_2i_e H0
      exact lv_icmp_le hx hb hdec (of_decide_eq_true hlk) (fun hc => go a _ ls q h H locs arr (xm_iff H0 (Int32.not_lt.mpr hc)) rfl rfl hP hD hS hl) (fun hc => nx rfl ls q arr (xm_ift H0 (Int32.not_le.mp hc)) hl)
  case ifnull off =>
    have h1 : 3 = len := hlen
    subst h1
    simp only [xm_wp] at H0
    obtain ⟨y, q, rfl, hk, HA1⟩ := xm_1c_e H0
    rcases hk with ⟨z, rfl⟩ | ⟨z, rfl⟩ | rfl
    · exact HA1.elim
    · exact lv_ifnull hx hb hdec (nx rfl ls q arr HA1 hl)
    · exact lv_ifnullN hx hb hdec (of_decide_eq_true hlk) (go a _ ls q h H locs arr HA1 rfl rfl hP hD hS hl)
  case ifnonnull off =>
    have h1 : 3 = len := hlen
    subst h1
    simp only [xm_wp] at H0
    obtain ⟨y, q, rfl, hk, HA1⟩ := xm_1c_e H0
    rcases hk with ⟨z, rfl⟩ | ⟨z, rfl⟩ | rfl
    · exact HA1.elim
    · exact lv_ifnonnull hx hb hdec (of_decide_eq_true hlk) (go a _ ls q h H locs arr HA1 rfl rfl hP hD hS hl)
    · exact lv_ifnonnullN hx hb hdec (nx rfl ls q arr HA1 hl)
  case goto off =>
    have h1 : 3 = len := hlen
    subst h1
    exact lv_goto hx hb hdec (of_decide_eq_true hlk) (go a _ ls st h H locs arr H0 rfl rfl hP hD hS hl)
  case tableswitch d lo hi offs =>
    obtain ⟨y, q, rfl, HA1⟩ := xm_1i_e H0
    have hlk : ((decide ((pc : Int) + d = (xm_pc C a : Int)) && decide (hi = lo + offs.size - 1)) && decide (sw.map (fun q => (q.1.toInt, (xm_pc C q.2 : Int))) = offs.toList.mapIdx (fun j o => (lo + (j : Int), (pc : Int) + o)))) = true := hlk
    rw [Bool.and_eq_true, Bool.and_eq_true, decide_eq_true_eq, decide_eq_true_eq, decide_eq_true_eq] at hlk
    obtain ⟨⟨k1, k2⟩, k3⟩ := hlk
    have hat : ∀ j : Nat, (sw[j]?).map (fun q => (q.1.toInt, (xm_pc C q.2 : Int))) = (offs[j]?).map (fun o => (lo + (j : Int), (pc : Int) + o)) := by
      intro j
      have h1 := congrArg (fun l => l[j]?) k3
      simp only [List.getElem?_map, List.getElem?_mapIdx, Array.getElem?_toList] at h1
      exact h1
    rcases xm_sw_tab sw HA1 with ⟨j, t, h1, h2⟩ | ⟨h1, h2⟩
    · have h3 := hat j
      rw [h1] at h3
      cases ho2 : offs[j]? with
      | none => rw [ho2] at h3; cases h3
      | some o =>
        rw [ho2] at h3
        have h3 : (y.toInt, (xm_pc C t : Int)) = (lo + (j : Int), (pc : Int) + o) := Option.some.inj h3
        have h4 : y.toInt = lo + (j : Int) := congrArg Prod.fst h3
        have h5 : (xm_pc C t : Int) = (pc : Int) + o := congrArg Prod.snd h3
        have h6 : j < offs.size := (Array.getElem?_eq_some_iff.mp ho2).1
        exact lv_tableIn hx hb hdec (by omega) (by omega) (off := o) (by rw [show (y.toInt - lo).toNat = j by omega]; exact ho2) h5.symm (go t _ ls q h H locs arr h2 rfl rfl hP hD hS hl)
    · refine lv_tableOut hx hb hdec ?_ k1 (go a _ ls q h H locs arr h2 rfl rfl hP hD hS hl)
      by_cases hin1 : y.toInt < lo ∨ hi < y.toInt
      · exact hin1
      · exfalso
        have h3 := hat (y.toInt - lo).toNat
        have h6 : (y.toInt - lo).toNat < offs.size := by omega
        rw [Array.getElem?_eq_getElem h6] at h3
        cases ho2 : sw[(y.toInt - lo).toNat]? with
        | none => rw [ho2] at h3; cases h3
        | some z =>
          rw [ho2] at h3
          have h4 : z.1.toInt = lo + ((y.toInt - lo).toNat : Int) := congrArg Prod.fst (Option.some.inj h3)
          exact h1 z (List.mem_of_getElem? ho2) (Int32.toInt_inj.mp (by omega))
  case lookupswitch d ps =>
    obtain ⟨y, q, rfl, HA1⟩ := xm_1i_e H0
    have hlk : ((decide ((pc : Int) + d = (xm_pc C a : Int)) && (ps.toList.zip (ps.toList.drop 1)).all (fun (a, next) => a.1 < next.1)) && decide (sw.map (fun q => (q.1.toInt, (xm_pc C q.2 : Int))) = ps.toList.map (fun q => (q.1, (pc : Int) + q.2)))) = true := hlk
    rw [Bool.and_eq_true, Bool.and_eq_true, decide_eq_true_eq, decide_eq_true_eq] at hlk
    obtain ⟨⟨k1, k2⟩, k3⟩ := hlk
    obtain ⟨t, h1, h2⟩ := xm_sw_look k1 sw ps.toList k3 HA1
    exact lv_lookup hx hb hdec k2 rfl h1 (go t _ ls q h H locs arr h2 rfl rfl hP hD hS hl)
  case getfield j =>
    have h1 : 3 = len := hlen
    subst h1
    obtain ⟨o, q, rfl, HA1⟩ := xm_1r_e H0
    obtain ⟨y, hy, HA2⟩ := xm_gf_e HA1
    obtain ⟨fs, hfs, hk⟩ := xm_fld_e hy
    simp only [xm_lk] at hlk
    split at hlk
    · next f hf =>
      obtain ⟨⟨Cn, Tt, N⟩, hq1, hq2, rfl⟩ := xm_fl_e hf
      obtain ⟨ty, t1, t2, t3, t4⟩ := xm_cls hq1
      exact va_get (D := D) (cl := vwCl) (tys := xm_ty cA) (ws := xm_w cA r h) (ci := a) (C := Cn) (T := Tt) (N := N) hx hb hts t1 hown hK hP o (xm_obj_at hfs) hq1 b hq2 (hts _ (xm_w1_e hlk)) (fun _ h9 => h9) (v := xm_v r y) (by rw [List.getElem?_map, hk]; rfl) hdec (nx rfl ls (y :: q) arr HA2 hl)
    · cases hlk
  case putfield j =>
    have h1 : 3 = len := hlen
    subst h1
    have key : ∀ (y : Value) (o : Nat) (q : List Value) (h1 : xm_H) (ty : FieldType), st = y :: .ref o :: q → xm_put h o a b y = some h1 → g (k + 1) uc us ls q h1 → (∀ f, xm_fl a b = some f → parseFieldDescriptor f.2.2.1 = some ty) → narrow ty (xm_v r y) = xm_v r y → fits ty (xm_v r y) = true → W p l e R s m args below meth c H locs uc us Q (F0 m pc arr (st.map (xm_v r))) := by
      intro y o q h1 ty hst hput HA1 hty hn hfit
      subst hst
      obtain ⟨fs, hfs, hk, rfl⟩ := xm_put_e hput
      simp only [xm_lk] at hlk
      split at hlk
      · next f hf =>
        have hty := hty f hf
        obtain ⟨⟨Cn, Tt, N⟩, hq1, hq2, rfl⟩ := xm_fl_e hf
        obtain ⟨ty0, t1, t2, t3, t4⟩ := xm_cls hq1
        rw [Bool.and_eq_true, Bool.and_eq_true] at hlk
        obtain ⟨⟨k1, k2⟩, k3⟩ := hlk
        have kk : ∀ (H1 : Heap) (locs1 : List Loc), va_P D vwCl ((xm_w cA r h).set o (r o, .inr (a, (fs.map (xm_v r)).set b (xm_v r y)))) H1 → va_D A ((xm_w cA r h).set o (r o, .inr (a, (fs.map (xm_v r)).set b (xm_v r y)))) → va_S A s.heap H1 locs1 → W p l e R s m args below meth c H1 locs1 uc us Q (F0 m (pc + 3) arr (q.map (xm_v r))) := by
          intro H1 locs1 p1 p2 p3
          refine nh rfl q o (.inr (a, fs.set b y)) H1 locs1 HA1 ?_ ?_ p3
          · show va_P D vwCl ((xm_w cA r h).set o (r o, .inr (a, (fs.set b y).map (xm_v r)))) H1
            rw [List.map_set]; exact p1
          · show va_D A ((xm_w cA r h).set o (r o, .inr (a, (fs.set b y).map (xm_v r))))
            rw [List.map_set]; exact p2
        by_cases hfi : (Tt b).2.2.2 = false
        · exact va_put (D := D) (cl := vwCl) (tys := xm_ty cA) (ws := xm_w cA r h) (ci := a) (C := Cn) (T := Tt) (N := N) hx hb hts t1 ty0 t2 t3 hown hK hP hD hS o (xm_obj_at hfs) hq1 b hq2 (hts _ (xm_w1_e k1)) (fun _ h9 => h9) hfi (v := xm_v r y) hty hn hfit (by rw [List.length_map]; exact hk) hdec kk
        · have hfi : (Tt b).2.2.2 = true := by cases hz : (Tt b).2.2.2 <;> first | rfl | exact absurd hz hfi
          have k2 : (!(Tt b).2.2.2 || (decide (S.1.name = "<init>") && decide ((Tt b).1 = own))) = true := k2
          rw [hfi, Bool.not_true, Bool.false_or, Bool.and_eq_true, decide_eq_true_eq, decide_eq_true_eq] at k2
          exact va_putF (D := D) (cl := vwCl) (tys := xm_ty cA) (ws := xm_w cA r h) (ci := a) (C := Cn) (T := Tt) (N := N) hx hb hts t1 ty0 t2 t3 hown hK hP hD hS o (xm_obj_at hfs) hq1 b hq2 (hts _ (xm_w1_e k1)) (fun _ h9 => h9) hfi (hin k2.1) k2.2 (v := xm_v r y) hty hn hfit (by rw [List.length_map]; exact hk) hdec kk
      · cases hlk
    have hpt : ∀ f, xm_fl a b = some f → (if v = 0 then decide (parseFieldDescriptor f.2.2.1 = some .int) else if v = 2 then decide (parseFieldDescriptor f.2.2.1 = some .boolean) else xm_ptO (parseFieldDescriptor f.2.2.1)) = true := by
      intro f hf
      simp only [xm_lk, hf] at hlk
      rw [Bool.and_eq_true] at hlk
      exact hlk.2
    by_cases hv0 : v = 0
    · have HA2 := xm_ift H0 hv0
      obtain ⟨y, q, rfl, HA3⟩ := xm_1i_e HA2
      obtain ⟨o, q, rfl, h1, hput, HA4⟩ := xm_1r_e HA3
      exact key (.int y) o q h1 .int rfl hput HA4 (fun f hf => by have := hpt f hf; rw [if_pos hv0] at this; exact of_decide_eq_true this) rfl rfl
    · have HA5 := xm_iff H0 hv0
      by_cases hv2 : v = 2
      · have HA6 := xm_ift HA5 hv2
        obtain ⟨y, q, rfl, HA7⟩ := xm_1i_e HA6
        obtain ⟨hy, HA8⟩ := xm_if HA7
        obtain ⟨o, q, rfl, h1, hput, HA9⟩ := xm_1r_e HA8
        exact key (.int y) o q h1 .boolean rfl hput HA9 (fun f hf => by have := hpt f hf; rw [if_neg hv0, if_pos hv2] at this; exact of_decide_eq_true this) (xm_nb hy) (xm_fb hy)
      · have HA10 := xm_iff HA5 hv2
        obtain ⟨y, q, rfl, HA11⟩ := xm_1r_e HA10
        obtain ⟨o, q, rfl, h1, hput, HA12⟩ := xm_1r_e HA11
        cases hfl : xm_fl a b with
        | none => simp only [xm_lk, hfl] at hlk; cases hlk
        | some f =>
          have h2 := hpt f hfl
          rw [if_neg hv0, if_neg hv2] at h2
          cases hpp : parseFieldDescriptor f.2.2.1 with
          | none => rw [hpp] at h2; cases h2
          | some ty =>
            rw [hpp] at h2
            exact key (.ref y) o q h1 ty rfl hput HA12 (fun f' hf' => by rw [hfl] at hf'; cases hf'; exact hpp) (xm_nr h2 (r y)).1 (xm_nr h2 (r y)).2
  case getstatic j =>
    have h1 : 3 = len := hlen
    subst h1
    simp only [xm_lk] at hlk
    split at hlk
    · next n hn =>
      by_cases hv0 : v = 0
      · rw [if_pos hv0] at hlk
        exact va_gets hx hb (ho.2.1 a n hn) hS hown (hts _ (xm_w1_e hlk)) (fun _ h9 => h9) hdec (nx rfl ls (.ref (1000 + a) :: st) arr H0 hl)
      · rw [if_neg hv0] at hlk
        obtain ⟨k1, k2⟩ := xm_w2_e hlk
        exact va_getsN hx hb (ho.2.1 a n hn) hS hown (va_Nw.use rfl (ho.2.2.1 _ k1 k2)) (fun _ h9 => h9) hdec (nx rfl ls (.ref (1000 + a) :: st) arr H0 hl)
    · cases hlk
  case iaload =>
    have h1 : 1 = len := hlen
    subst h1
    obtain ⟨j, q, rfl, HA1⟩ := xm_1i_e H0
    obtain ⟨o, q, rfl, y, hy, HA2⟩ := xm_1r_e HA1
    obtain ⟨n, f, har, hin2, rfl⟩ := xm_ld_e hy
    rcases xm_ar_e har with har2 | ⟨ht0, z, hz9, har2⟩
    · exact va_iald (D := D) (cl := vwCl) (tys := xm_ty cA) hx hb hK hP o 0 (xm_cut_at har2) rfl hin2 hdec (nx rfl ls (.int (f j.toNatClampNeg) :: q) arr HA2 hl)
    · subst hz9
      exact va_sld hx hb (ho.1 z n f har2).1 (ho.1 z n f har2).2.1 (ho.1 z n f har2).2.2 hS hin2 hdec (nx rfl ls (.int (f j.toNatClampNeg) :: q) arr HA2 hl)
  case baload =>
    have h1 : 1 = len := hlen
    subst h1
    obtain ⟨j, q, rfl, HA1⟩ := xm_1i_e H0
    obtain ⟨o, q, rfl, y, hy, HA2⟩ := xm_1r_e HA1
    obtain ⟨n, f, har, hin2, rfl⟩ := xm_ld_e hy
    rcases xm_ar_e har with har2 | ⟨ht0, z, hz9, har2⟩
    · exact va_bald (D := D) (cl := vwCl) (tys := xm_ty cA) hx hb hK hP o 1 (xm_cut_at har2) rfl hin2 hdec (nx rfl ls (.int (f j.toNatClampNeg) :: q) arr HA2 hl)
    · subst hz9
      exact absurd ht0 (by decide)
  case saload =>
    have h1 : 1 = len := hlen
    subst h1
    obtain ⟨j, q, rfl, HA1⟩ := xm_1i_e H0
    obtain ⟨o, q, rfl, y, hy, HA2⟩ := xm_1r_e HA1
    obtain ⟨n, f, har, hin2, rfl⟩ := xm_ld_e hy
    rcases xm_ar_e har with har2 | ⟨ht0, z, hz9, har2⟩
    · exact va_sald (D := D) (cl := vwCl) (tys := xm_ty cA) hx hb hK hP o 2 (xm_cut_at har2) rfl hin2 hdec (nx rfl ls (.int (f j.toNatClampNeg) :: q) arr HA2 hl)
    · subst hz9
      exact absurd ht0 (by decide)
  case laload =>
    have h1 : 1 = len := hlen
    subst h1
    obtain ⟨j, q, rfl, HA1⟩ := xm_1i_e H0
    obtain ⟨o, q, rfl, y, hy, HA2⟩ := xm_1r_e HA1
    obtain ⟨n, f, har, hin2, rfl⟩ := xm_ldL_e hy
    exact va_lald (D := D) (cl := vwCl) (tys := xm_ty cA) hx hb hK hP o 3 (xm_cut_at har) rfl hin2 hdec (nx rfl ls (.long (f j.toNatClampNeg) :: q) arr HA2 hl)
  case aaload =>
    have h1 : 1 = len := hlen
    subst h1
    obtain ⟨j, q, rfl, HA1⟩ := xm_1i_e H0
    obtain ⟨o, q, rfl, y, hy, HA2⟩ := xm_1r_e HA1
    obtain ⟨n, f, har, hin2, hfy⟩ := xm_ldR_e hy
    have hlt : j.toNatClampNeg < n := Nat.not_le.mp fun q => hin2 (Or.inr q)
    refine va_aldq (D := D) (cl := vwCl) (tys := xm_ty cA) hx hb hK hP o 4 (xm_cut_at har) rfl hin2 hdec ?_
    have hz : va_rf (if j.toNatClampNeg < n then (f j.toNatClampNeg).map r else none) = .ref (r y) := by rw [if_pos hlt, hfy]; rfl
    rw [hz]
    exact nx rfl ls (.ref y :: q) arr HA2 hl
  case iastore =>
    have h1 : 1 = len := hlen
    subst h1
    obtain ⟨j, y, q, rfl, HA1⟩ := xm_2i_e H0
    obtain ⟨o, q, rfl, h1, hst, HA2⟩ := xm_1r_e HA1
    obtain ⟨n, f, har, hin2, rfl⟩ := xm_sto_e hst
    exact va_iast (D := D) (cl := vwCl) (tys := xm_ty cA) hx hb hK hP hD hS o 0 (xm_cut_at har) rfl hin2 hdec (fun H1 locs1 p1 p2 p3 => nh rfl q o _ H1 locs1 HA2 p1 p2 p3)
  case bastore =>
    have h1 : 1 = len := hlen
    subst h1
    obtain ⟨j, y, q, rfl, HA1⟩ := xm_2i_e H0
    obtain ⟨o, q, rfl, h1, hst, HA2⟩ := xm_1r_e HA1
    obtain ⟨n, f, har, hin2, rfl⟩ := xm_sto_e hst
    exact va_bast (D := D) (cl := vwCl) (tys := xm_ty cA) hx hb hK hP hD hS o 1 (xm_cut_at har) rfl hin2 hdec (fun H1 locs1 p1 p2 p3 => nh rfl q o _ H1 locs1 HA2 p1 p2 p3)
  case sastore =>
    have h1 : 1 = len := hlen
    subst h1
    obtain ⟨j, y, q, rfl, HA1⟩ := xm_2i_e H0
    obtain ⟨o, q, rfl, h1, hst, HA2⟩ := xm_1r_e HA1
    obtain ⟨n, f, har, hin2, rfl⟩ := xm_sto_e hst
    exact va_sast (D := D) (cl := vwCl) (tys := xm_ty cA) hx hb hK hP hD hS o 2 (xm_cut_at har) rfl hin2 hdec (fun H1 locs1 p1 p2 p3 => nh rfl q o _ H1 locs1 HA2 p1 p2 p3)
  case lastore =>
    have h1 : 1 = len := hlen
    subst h1
    obtain ⟨y, q, rfl, HA1⟩ := xm_1l_e H0
    obtain ⟨j, q, rfl, HA2⟩ := xm_1i_e HA1
    obtain ⟨o, q, rfl, h1, hst, HA3⟩ := xm_1r_e HA2
    obtain ⟨n, f, har, hin2, rfl⟩ := xm_stoL_e hst
    exact va_last (D := D) (cl := vwCl) (tys := xm_ty cA) hx hb hK hP hD hS o 3 (xm_cut_at har) rfl hin2 hdec (fun H1 locs1 p1 p2 p3 => nh rfl q o _ H1 locs1 HA3 p1 p2 p3)
  case aastore =>
    have h1 : 1 = len := hlen
    subst h1
    obtain ⟨y, q, rfl, HA1⟩ := xm_1r_e H0
    obtain ⟨j, q, rfl, HA2⟩ := xm_1i_e HA1
    obtain ⟨o, q, rfl, h1, hst, HA3⟩ := xm_1r_e HA2
    obtain ⟨n, f, fs, har, hby, hin2, rfl⟩ := xm_stoR_e hst
    have hlt : j.toNatClampNeg < n := Nat.not_le.mp fun q => hin2 (Or.inr q)
    have hff : va_up (fun z => if z < n then (f z).map r else none) j.toNatClampNeg (some (r y)) = (fun z => if z < n then (va_up f j.toNatClampNeg (some y) z).map r else none) := by
      funext z
      by_cases hz : z = j.toNatClampNeg
      · subst hz; simp [va_up, hlt]
      · simp [va_up, hz]
    refine va_astq (D := D) (cl := vwCl) (tys := xm_ty cA) (r := (RX5, TX5, 4)) hx hb hK hP hD hS o 4 y 5 (xm_cut_at har) rfl (xm_obj_at hby) rfl hin2 hdec (fun H1 locs1 p1 p2 p3 => ?_)
    refine nh rfl q o _ H1 locs1 HA3 ?_ ?_ p3
    · show va_P D vwCl ((xm_w cA r h).set o (r o, .inl (cA 4, n, .inr (.inr (.inr (.inr (fun z => if z < n then (va_up f j.toNatClampNeg (some y) z).map r else none))))))) H1
      rw [← hff]; exact p1
    · show va_D A ((xm_w cA r h).set o (r o, .inl (cA 4, n, .inr (.inr (.inr (.inr (fun z => if z < n then (va_up f j.toNatClampNeg (some y) z).map r else none)))))))
      rw [← hff]; exact p2
  case arraylength =>
    have h1 : 1 = len := hlen
    subst h1
    obtain ⟨o, q, rfl, y, hy, HA1⟩ := xm_1r_e H0
    rcases xm_len_e hy with ⟨t, n, f, ht, har, rfl⟩ | ⟨z, n, f, rfl, har, rfl⟩
    · have h1 := xm_cut_at (cA := cA) (r := r) har
      have hxa : (xm_a r (n, f)).1 = n := by rcases f with f | f | f | f | f <;> rfl
      rcases (show t = 0 ∨ t = 1 ∨ t = 2 ∨ t = 3 ∨ t = 4 by omega) with rfl | rfl | rfl | rfl | rfl
      · exact va_alen (D := D) (cl := vwCl) (tys := xm_ty cA) hx hb hK hP o 0 h1 rfl (by rw [hxa]) hdec (nx rfl ls (.int (Int32.ofNat n) :: q) arr HA1 hl)
      · exact va_alen (D := D) (cl := vwCl) (tys := xm_ty cA) hx hb hK hP o 1 h1 rfl (by rw [hxa]) hdec (nx rfl ls (.int (Int32.ofNat n) :: q) arr HA1 hl)
      · exact va_alen (D := D) (cl := vwCl) (tys := xm_ty cA) hx hb hK hP o 2 h1 rfl (by rw [hxa]) hdec (nx rfl ls (.int (Int32.ofNat n) :: q) arr HA1 hl)
      · exact va_alen (D := D) (cl := vwCl) (tys := xm_ty cA) hx hb hK hP o 3 h1 rfl (by rw [hxa]) hdec (nx rfl ls (.int (Int32.ofNat n) :: q) arr HA1 hl)
      · exact va_alen (D := D) (cl := vwCl) (tys := xm_ty cA) hx hb hK hP o 4 h1 rfl (by rw [hxa]) hdec (nx rfl ls (.int (Int32.ofNat n) :: q) arr HA1 hl)
    · exact va_slen hx hb (ho.1 z n f har).1 (ho.1 z n f har).2.1 (ho.1 z n f har).2.2 hS hdec (nx rfl ls (.int (Int32.ofNat n) :: q) arr HA1 hl)
  case new j =>
    have h1 : 3 = len := hlen
    subst h1
    obtain ⟨⟨b1, b2⟩, hva, HA1⟩ := (show (uc + 1 ≤ S.2.2.2.2.1 ∧ us + b ≤ S.2.2.2.2.2) ∧ xm_va h ls st 1 ∧ g (k + 1) (uc + 1) (us + b) ls (.ref h.length :: st) (h ++ [.inr (a, xm_df a)]) from H0)
    simp only [xm_lk] at hlk
    split at hlk
    · next Cn Tt N hc =>
      simp only [Bool.and_eq_true, decide_eq_true_eq] at hlk
      obtain ⟨⟨⟨k1, k2⟩, k3⟩, k4⟩ := hlk
      subst k1
      obtain ⟨ty, t1, t2, t3, t4⟩ := xm_cls hc
      refine va_new (D := D) (cl := vwCl) (tys := xm_ty cA) (ws := xm_w cA r h) (fs := xm_df a) (C := Cn) (T := Tt) (N := N) hx hb hts t1 ty t2 hown (hts _ (xm_w1_e k2)) (hts _ (xm_w1_e k3)) (hts _ (xm_w1_e k4)) hK hP hD hS hA hc t4 (by omega) (by omega) hdec (fun q H1 p1 p2 p3 => ?_)
      refine al rfl q ls st (.inr (a, xm_df a)) (us + N) H1 b1 b2 hva (fun r' => ?_) HA1 ?_ ?_ p3
      · show Sum.inr (a, (xm_df a).map (xm_v r')) = Sum.inr (a, (xm_df a).map (xm_v r))
        rw [xm_df_id, xm_df_id]
      · show va_P D vwCl (xm_w cA r h ++ [(q, .inr (a, (xm_df a).map (xm_v r)))]) H1
        rw [xm_df_id]; exact p1
      · show va_D A (xm_w cA r h ++ [(q, .inr (a, (xm_df a).map (xm_v r)))])
        rw [xm_df_id]; exact p2
    · cases hlk
  case newarray ty =>
    have h1 : 2 = len := hlen
    subst h1
    obtain ⟨n, q, rfl, HA1⟩ := xm_1i_e H0
    obtain ⟨rfl, ⟨b1, b2⟩, hva, HA2⟩ := xm_if HA1
    simp only [xm_lk, Bool.and_eq_true, decide_eq_true_eq] at hlk
    obtain ⟨⟨⟨k1, k2⟩, k3⟩, k4⟩ := hlk
    have hal : ∀ (at_ : ArrayType) (t : Nat) (fty : FieldType) (a0 : vp_A), ty = at_ → newarray.typeOf at_ = fty → a = t → (xm_ty cA)[t]? = some (cA t, fty) → (∀ C, fty ≠ .object C) → Cond.arrayClass fty ∈ xm_tb → b * componentBytes fty ≤ 536870912 → (∀ cB : ClassId, vp_cell cB a0 = arrV cB b (fun _ => defaultValue fty)) → (∀ r', xm_e cA r' (xm_za a b) = .inl (cA t, a0)) → W p l e R s m args below meth c H locs uc us Q (F0 m pc arr ((.int n :: q).map (xm_v r))) := by
      intro at_ t fty a0 h1 h2 h3 h4 h5 h6 h7 h8 h9
      subst h1
      subst h3
      refine va_newa (D := D) (cl := vwCl) (tys := xm_ty cA) (ws := xm_w cA r h) (atype := ty) (ty := fty) (N' := b) hx hb (by rw [h2]; exact hts _ h6) h2 hK hP hD hS hA h8 k2 k1 h7 (by omega) (by omega) hdec (fun q1 cB H1 p0 p1 p2 p3 => ?_)
      have hcc : cB = cA a := xm_newid h5 (p0.2 5 (cB, fty) rfl).2 (p0.2 a (cA a, fty) (by
        have hlt : a < 5 := by have := (List.getElem?_eq_some_iff.mp h4).1; exact this
        rw [List.getElem?_append_left (by exact hlt)]; exact h4)).2
      subst hcc
      refine al rfl q1 ls q (xm_za a b) (us + b) H1 b1 b2 hva (fun r' => by rw [h9, h9]) HA2 ?_ ?_ p3
      · rw [h9]; exact p1
      · rw [h9]; exact p2
    cases ty <;> first | (exact absurd (show false = true from k4) (by decide)) | skip
    case byte =>
      simp only [Bool.and_eq_true, decide_eq_true_eq] at k4
      obtain ⟨rfl, k5⟩ := k4
      exact hal .byte 1 .byte (b, .inl (fun _ => 0)) rfl rfl rfl rfl (fun C => by intro e; cases e) (xm_w1_e k5) (by show b * 1 ≤ _; omega) (fun cB => rfl) (fun r' => rfl)
    case short =>
      simp only [Bool.and_eq_true, decide_eq_true_eq] at k4
      obtain ⟨rfl, k5⟩ := k4
      exact hal .short 2 .short (b, .inl (fun _ => 0)) rfl rfl rfl rfl (fun C => by intro e; cases e) (xm_w1_e k5) (by show b * 2 ≤ _; omega) (fun cB => rfl) (fun r' => rfl)
    case int =>
      simp only [Bool.and_eq_true, decide_eq_true_eq] at k4
      obtain ⟨rfl, k5⟩ := k4
      exact hal .int 0 .int (b, .inl (fun _ => 0)) rfl rfl rfl rfl (fun C => by intro e; cases e) (xm_w1_e k5) (by show b * 4 ≤ _; omega) (fun cB => rfl) (fun r' => rfl)
    case long =>
      simp only [Bool.and_eq_true, decide_eq_true_eq] at k4
      obtain ⟨rfl, k5⟩ := k4
      exact hal .long 3 .long (b, .inr (.inl (fun _ => 0))) rfl rfl rfl rfl (fun C => by intro e; cases e) (xm_w1_e k5) (by show b * 8 ≤ _; omega) (fun cB => rfl) (fun r' => rfl)
  case anewarray j =>
    have h1 : 3 = len := hlen
    subst h1
    obtain ⟨n, q, rfl, HA1⟩ := xm_1i_e H0
    obtain ⟨rfl, ⟨b1, b2⟩, hva, HA2⟩ := xm_if HA1
    simp only [xm_lk, Bool.and_eq_true, decide_eq_true_eq] at hlk
    obtain ⟨⟨⟨k1, k2⟩, k3⟩, k4⟩ := hlk
    refine va_newq (D := D) (cl := vwCl) (tys := xm_ty cA) (ws := xm_w cA r h) (N' := b) hx hb hown (hts _ (xm_w1_e k4)) ho.2.2.2 hK hP hD hS hA k2 k1 (by omega) (by omega) (by omega) hdec (fun q1 cB H1 p0 p1 p2 p3 => ?_)
    have hcc : cB = cA 4 := xm_newidO (p0.2 5 (cB, .object RX5) rfl).2 (p0.2 4 (cA 4, .object RX5) rfl).2
    subst hcc
    have hfn : ∀ r' : Nat → Nat, (fun j => if j < b then (none : Option Nat).map r' else none) = (fun _ => none : Nat → Option Nat) := fun r' => by funext j; split <;> rfl
    refine al rfl q1 ls q (.inl (4, b, .inr (.inr (.inr (.inr (fun _ => none)))))) (us + b) H1 b1 b2 hva (fun r' => ?_) HA2 ?_ ?_ p3
    · show Sum.inl (cA 4, b, Sum.inr (Sum.inr (Sum.inr (Sum.inr (fun j => if j < b then (none : Option Nat).map r' else none))))) = Sum.inl (cA 4, b, Sum.inr (Sum.inr (Sum.inr (Sum.inr (fun j => if j < b then (none : Option Nat).map r else none)))))
      rw [hfn, hfn]
    · show va_P D vwCl (xm_w cA r h ++ [(q1, .inl (cA 4, b, .inr (.inr (.inr (.inr (fun j => if j < b then (none : Option Nat).map r else none))))))]) H1
      rw [hfn]; exact p1
    · show va_D A (xm_w cA r h ++ [(q1, .inl (cA 4, b, .inr (.inr (.inr (.inr (fun j => if j < b then (none : Option Nat).map r else none))))))])
      rw [hfn]; exact p2
  case invokestatic j =>
    have h1 : 3 = len := hlen
    subst h1
    by_cases hv3 : v = 3
    · have HA1 := xm_ift H0 hv3
      simp only [xm_lk] at hlk
      rw [if_pos hv3] at hlk
      simp only [Bool.and_eq_true] at hlk
      obtain ⟨⟨⟨k1, k2⟩, k3⟩, k4⟩ := hlk
      unfold xm_cpy at HA1
      split at HA1
      · next n dp a1 sp a0 q =>
        obtain ⟨hw8, h1, hcp, HA2⟩ := xm_if HA1
        have hcat : ((q.map (xm_v r)).map (fun v => v.category)).sum = (q.map (fun v => v.category)).sum := by rw [List.map_map]; congr 1; exact List.map_congr_left (fun v _ => xm_v_cat r v)
        have hml2 : c.maxLocals = arr.size := by rw [hml, hl.2.1]
        by_cases hb0 : b = 0
        · rw [if_pos hb0] at hcp
          obtain ⟨n0, f, n1, f1, g0, g1, ⟨g2, g3, g4⟩, g5, g6, rfl⟩ := xm_cpI_e hcp
          exact va_copyi (D := D) (cl := vwCl) (tys := xm_ty cA) (ty := .int) hx hb hml2 hown (hts _ (xm_w1_e k1)) (hts _ (xm_w1_e k2)) (hts _ (xm_w1_e k3)) (hts _ (xm_w1_e k4)) hK hP hD hS a0 a1 0 0 (xm_cut_at g0) (xm_cut_at g1) rfl rfl rfl g2 g3 g4 g5 g6 (fun _ _ => rfl) (by omega) (by rw [hcat]; have h27 := xm_nfw; omega) hdec (fun H1 locs1 p1 p2 p3 => nh rfl q a1 _ H1 locs1 HA2 p1 p2 p3)
        · rw [if_neg hb0] at hcp
          obtain ⟨n0, f, n1, f1, g0, g1, ⟨g2, g3, g4⟩, g5, g6, rfl⟩ := xm_cpL_e hcp
          exact va_copyl (D := D) (cl := vwCl) (tys := xm_ty cA) (ty := .long) hx hb hml2 hown (hts _ (xm_w1_e k1)) (hts _ (xm_w1_e k2)) (hts _ (xm_w1_e k3)) (hts _ (xm_w1_e k4)) hK hP hD hS a0 a1 3 3 (xm_cut_at g0) (xm_cut_at g1) rfl rfl rfl g2 g3 g4 g5 g6 (fun _ _ => rfl) (by omega) (by rw [hcat]; have h27 := xm_nfw; omega) hdec (fun H1 locs1 p1 p2 p3 => nh rfl q a1 _ H1 locs1 HA2 p1 p2 p3)
      · exact HA1.elim
    · have HA3 := xm_iff H0 hv3
      simp only [xm_lk] at hlk
      rw [if_neg hv3] at hlk
      simp only [Bool.and_eq_true] at hlk
      obtain ⟨⟨⟨⟨k1, k2⟩, k3⟩, k4⟩, k5⟩ := hlk
      obtain ⟨⟨hm, hw8⟩, H1⟩ := xm_if HA3
      refine cll a 99 (st.take a).reverse (st.drop a) rfl rfl (xm_take hm) (by unfold xm_cl; rw [if_pos ⟨hm, hw8⟩]; trivial) rfl rfl H1 ?_
      intro k0 P0 hk0 hT45 b1 b2 hcw _
      have hstk : st.map (xm_v r) = (((st.take a).reverse).map (xm_v r)).reverse ++ (st.drop a).map (xm_v r) := by rw [← List.map_reverse, ← List.map_append, List.reverse_reverse, List.take_append_drop]
      have hcat : (((st.drop a).map (xm_v r)).map (fun v => v.category)).sum ≤ 8 := by rw [List.map_map]; exact Nat.le_trans (Nat.le_of_eq (by congr 1; exact List.map_congr_left (fun v _ => xm_v_cat r v))) hw8
      have hlen2 : (((st.take a).reverse).map (xm_v r)).length = a := by rw [List.length_map, List.length_reverse, List.length_take]; omega
      by_cases hv0 : v = 0
      · rw [if_pos hv0] at k1
        exact va_runS (own := own) (nL := S.2.2.1) (Ts := xm_tb) ⟨hx, hb, hml, hown, hts⟩ (hcw l D cA r H.size) ⟨callB_of (Ts := xm_tb) a hts (xm_goodCall (xm_w1_e k4)) rfl rfl rfl (hts _ (xm_w1_e k3)) (hts _ (xm_w1_e k1)) (xm_md_e k5) ⟨by show k0 + 1 + 1 ≤ R.frames; omega, by show 8 + (T.2.2.1 + 11) + 64 * (k0 + 1) ≤ R.locals; omega⟩, hts _ (xm_w1_e k2)⟩ ⟨xm_blind D cA r H.size h _, fun U hU hW => xm_pre_of hO hK hA ho hP hD hS _ U hU hW⟩ rfl hlen2 hl.2.1 hstk (lv_room hcat) hdec ⟨by omega, by omega⟩
      · rw [if_neg hv0] at k1
        obtain ⟨j1, j2⟩ := xm_w2_e k1
        exact va_runSN (own := own) (nL := S.2.2.1) (Ts := xm_tb) ⟨hx, hb, hml, hown, hts⟩ (hcw l D cA r H.size) ⟨va_cnB (Ts := xm_tb) a hts (xm_goodCall (xm_w1_e k4)) rfl rfl rfl (ho.2.2.1 _ j1 j2) (hts _ (xm_w1_e k3)) (xm_md_e k5) ⟨by show k0 + 1 + 1 ≤ R.frames; omega, by show 8 + (T.2.2.1 + 11) + 64 * (k0 + 1) ≤ R.locals; omega⟩, hts _ (xm_w1_e k2), trivial⟩ ⟨xm_blind D cA r H.size h _, fun U hU hW => xm_pre_of hO hK hA ho hP hD hS _ U hU hW⟩ rfl hlen2 hl.2.1 hstk (lv_room hcat) hdec ⟨by omega, by omega⟩
  case invokevirtual j =>
    have h1 : 3 = len := hlen
    subst h1
    simp only [xm_lk, Bool.and_eq_true, decide_eq_true_eq] at hlk
    obtain ⟨⟨⟨⟨⟨⟨k1, k2⟩, k3⟩, k4⟩, k5⟩, k6⟩, k7⟩ := hlk
    obtain ⟨⟨hm, hw8⟩, H1⟩ := xm_if H0
    refine cll (a + 1) b (st.take (a + 1)).reverse (st.drop (a + 1)) rfl rfl (xm_take hm) (by unfold xm_cl; rw [if_pos ⟨hm, hw8⟩]; trivial) rfl rfl H1 ?_
    intro k0 P0 hk0 hT45 b1 b2 hcw hro
    cases hq : vwCl[b]? with
    | none => rw [hq] at k7; cases k7
    | some qc =>
    rw [hq] at k7
    have k7 : qc.1 = T.1.cls := Option.some.inj k7
    have hb99 : b ≠ 99 := fun e => by rw [e] at hq; cases hq
    obtain ⟨b9, fs, hhd, hbo⟩ := hro.resolve_left hb99
    have hcat : (((st.drop (a + 1)).map (xm_v r)).map (fun v => v.category)).sum ≤ 8 := by rw [List.map_map]; exact Nat.le_trans (Nat.le_of_eq (by congr 1; exact List.map_congr_left (fun v _ => xm_v_cat r v))) hw8
    have hlen2 : ((st.take (a + 1)).reverse).length = a + 1 := by rw [List.length_reverse, List.length_take]; omega
    have hst2 : st = ((st.take (a + 1)).reverse).reverse ++ st.drop (a + 1) := xm_take hm
    generalize hav : (st.take (a + 1)).reverse = av at *
    cases av with
    | nil => cases hhd
    | cons v9 As =>
    have hv9 : v9 = .ref b9 := Option.some.inj hhd
    subst hv9
    have hAl : As.length = a := by simpa using hlen2
    have hstk : st.map (xm_v r) = (As.map (xm_v r)).reverse ++ .ref (r b9) :: (st.drop (a + 1)).map (xm_v r) := by
      conv => lhs; rw [hst2]
      rw [List.reverse_cons, List.append_assoc, List.map_append, List.map_reverse]
      rfl
    obtain ⟨cell, c1, c2, c3⟩ := va_recv hK hP hq (xm_obj_at (cA := cA) (r := r) hbo)
    rw [k7] at c3
    exact va_runV (own := own) (C := T.1.cls) (nL := S.2.2.1) (Ts := xm_tb) ⟨hx, hb, hml, hown, hts⟩ (hcw l D cA r H.size) ⟨callB_of (Ts := xm_tb) a hts (xm_goodCall (xm_w1_e k5)) rfl rfl rfl (hts _ (xm_w1_e k4)) (hts _ (xm_w1_e k1)) (xm_md_e k6) ⟨by show k0 + 1 + 1 ≤ R.frames; omega, by show 8 + (T.2.2.1 + 11) + 64 * (k0 + 1) ≤ R.locals; omega⟩, hts _ (xm_w1_e k2), hts _ (xm_w1_e k3)⟩ ⟨xm_blind D cA r H.size h _, ⟨cell, c1, c2, c3⟩, fun U hU hW => xm_pre_of hO hK hA ho hP hD hS _ U hU hW⟩ rfl (by rw [List.length_map]; exact hAl) hl.2.1 hstk (lv_room hcat) hdec ⟨by omega, by omega⟩
  case invokespecial j =>
    have h1 : 3 = len := hlen
    subst h1
    by_cases hv2 : v = 2
    · have HA1 := xm_ift H0 hv2
      obtain ⟨o, q, rfl, HA2⟩ := xm_1r_e HA1
      obtain ⟨hw8, HA3⟩ := xm_if HA2
      simp only [xm_lk] at hlk
      rw [if_pos hv2] at hlk
      simp only [Bool.and_eq_true] at hlk
      obtain ⟨⟨k1, k2⟩, k3⟩ := hlk
      have hcat : ((q.map (xm_v r)).map (fun v => v.category)).sum ≤ 8 := by rw [List.map_map]; exact Nat.le_trans (Nat.le_of_eq (by congr 1; exact List.map_congr_left (fun v _ => xm_v_cat r v))) hw8
      refine W.objInit hx hb hown (hts _ (xm_w1_e k1)) (hts _ (xm_w1_e k2)) (hts _ (xm_w1_e k3)) rfl (by rw [hml]; exact hl.2.1) (a := r o) (rest := q.map (xm_v r)) rfl hdec (by omega) ?_ ?_
      · have := lv_room (m := m) (pc := pc) (ls := arr) (rest := (Value.ref o :: q).map (xm_v r)) hcat
        omega
      · exact nx rfl ls q arr HA3 hl
    · have HA4 := xm_iff H0 hv2
      simp only [xm_lk] at hlk
      rw [if_neg hv2] at hlk
      simp only [Bool.and_eq_true, decide_eq_true_eq] at hlk
      obtain ⟨⟨⟨⟨⟨⟨⟨k1, k2⟩, k3⟩, k4⟩, k5⟩, k6⟩, k8⟩, k7⟩ := hlk
      obtain ⟨⟨hm, hw8⟩, H1⟩ := xm_if HA4
      refine cll (a + 1) b (st.take (a + 1)).reverse (st.drop (a + 1)) rfl rfl (xm_take hm) (by unfold xm_cl; rw [if_pos ⟨hm, hw8⟩]; trivial) rfl rfl H1 ?_
      intro k0 P0 hk0 hT45 b1 b2 hcw hro
      cases hq : vwCl[b]? with
      | none => rw [hq] at k7; cases k7
      | some qc =>
      have hb99 : b ≠ 99 := fun e => by rw [e] at hq; cases hq
      obtain ⟨b9, fs, hhd, hbo⟩ := hro.resolve_left hb99
      have hcat : (((st.drop (a + 1)).map (xm_v r)).map (fun v => v.category)).sum ≤ 8 := by rw [List.map_map]; exact Nat.le_trans (Nat.le_of_eq (by congr 1; exact List.map_congr_left (fun v _ => xm_v_cat r v))) hw8
      have hlen2 : ((st.take (a + 1)).reverse).length = a + 1 := by rw [List.length_reverse, List.length_take]; omega
      have hst2 : st = ((st.take (a + 1)).reverse).reverse ++ st.drop (a + 1) := xm_take hm
      generalize hav : (st.take (a + 1)).reverse = av at *
      cases av with
      | nil => cases hhd
      | cons v9 As =>
      have hv9 : v9 = .ref b9 := Option.some.inj hhd
      subst hv9
      have hAl : As.length = a := by simpa using hlen2
      have hstk : st.map (xm_v r) = (As.map (xm_v r)).reverse ++ .ref (r b9) :: (st.drop (a + 1)).map (xm_v r) := by
        conv => lhs; rw [hst2]
        rw [List.reverse_cons, List.append_assoc, List.map_append, List.map_reverse]
        rfl
      have hmet := hcw l D cA r H.size
      by_cases hv0 : v = 0
      · rw [if_pos hv0] at k1
        have hz := callB_of (ret := T.2.2.2.1) (Ts := xm_tb) (R := R) (rm := xm_rm k0 T) a hts (xm_goodCall (xm_w1_e k4)) rfl rfl rfl (hts _ (xm_w1_e k3)) (hts _ (xm_w1_e k1)) (xm_md_e k5) ⟨by show k0 + 1 + 1 ≤ R.frames; omega, by show 8 + (T.2.2.1 + 11) + 64 * (k0 + 1) ≤ R.locals; omega⟩
        rw [k8] at hz
        exact va_runI (own := own) (nL := S.2.2.1) (Ts := xm_tb) ⟨hx, hb, hml, hown, hts⟩ hmet ⟨hz, k6, hts _ (xm_w1_e k2)⟩ ⟨xm_blind D cA r H.size h _, fun U hU hW => xm_pre_of hO hK hA ho hP hD hS _ U hU hW⟩ rfl (by rw [List.length_map]; exact hAl) hl.2.1 hstk (lv_room hcat) hdec ⟨by omega, by omega⟩
      · rw [if_neg hv0] at k1
        obtain ⟨j1, j2⟩ := xm_w2_e k1
        have hz := va_cnB (ret := T.2.2.2.1) (Ts := xm_tb) (R := R) (rm := xm_rm k0 T) a hts (xm_goodCall (xm_w1_e k4)) rfl rfl rfl (ho.2.2.1 _ j1 j2) (hts _ (xm_w1_e k3)) (xm_md_e k5) ⟨by show k0 + 1 + 1 ≤ R.frames; omega, by show 8 + (T.2.2.1 + 11) + 64 * (k0 + 1) ≤ R.locals; omega⟩
        rw [k8] at hz
        exact va_runIN (own := own) (nL := S.2.2.1) (Ts := xm_tb) ⟨hx, hb, hml, hown, hts⟩ hmet ⟨hz, k6, hts _ (xm_w1_e k2)⟩ ⟨xm_blind D cA r H.size h _, fun U hU hW => xm_pre_of hO hK hA ho hP hD hS _ U hU hW⟩ rfl (by rw [List.length_map]; exact hAl) hl.2.1 hstk (lv_room hcat) hdec ⟨by omega, by omega⟩
  case ireturn =>
    have h1 : 1 = len := hlen
    subst h1
    have HA1 : (match S.2.2.2.1 with
      | some .int => xm_e1 st (fun y => match y with
        | .int x => P (some (.int x)) h
        | _ => False)
      | some .boolean => xm_e1 st (fun y => match y with
        | .int x => if x = 0 ∨ x = 1 then P (some (.int x)) h else False
        | _ => False)
      | _ => False) := H0
    split at HA1
    · next hret =>
      obtain ⟨y, rfl, HA2⟩ := xm_e1_e HA1
      split at HA2
      · next x => exact fin pc arr H locs uc us r (some (.int x)) h HA2 (Or.inl ⟨x, rfl, hdec, Or.inl hret⟩) (fun _ _ => rfl) (Nat.le_refl _) (Nat.le_refl _) huc hus hP hD hS
      · exact HA2.elim
    · next hret =>
      obtain ⟨y, rfl, HA3⟩ := xm_e1_e HA1
      split at HA3
      · next x =>
        obtain ⟨hx01, HA4⟩ := xm_if HA3
        exact fin pc arr H locs uc us r (some (.int x)) h HA4 (Or.inl ⟨x, rfl, hdec, Or.inr ⟨hret, hx01⟩⟩) (fun _ _ => rfl) (Nat.le_refl _) (Nat.le_refl _) huc hus hP hD hS
      · exact HA3.elim
    · exact HA1.elim
  case lreturn =>
    have h1 : 1 = len := hlen
    subst h1
    have HA1 : (match S.2.2.2.1 with
      | some .long => xm_e1 st (fun y => match y with
        | .long x => P (some (.long x)) h
        | _ => False)
      | _ => False) := H0
    split at HA1
    · next hret =>
      obtain ⟨y, rfl, HA2⟩ := xm_e1_e HA1
      split at HA2
      · next x => exact fin pc arr H locs uc us r (some (.long x)) h HA2 (Or.inr (Or.inl ⟨x, rfl, hdec, hret⟩)) (fun _ _ => rfl) (Nat.le_refl _) (Nat.le_refl _) huc hus hP hD hS
      · exact HA2.elim
    · exact HA1.elim
  case areturn =>
    have h1 : 1 = len := hlen
    subst h1
    have HA1 : (match S.2.2.2.1 with
      | some (.object _) => xm_e1 st (fun y => match y with
        | .ref x => P (some (.ref x)) h
        | .null => P (some .null) h
        | _ => False)
      | _ => False) := H0
    split at HA1
    · next nm hret =>
      obtain ⟨y, rfl, HA2⟩ := xm_e1_e HA1
      split at HA2
      · next x => exact fin pc arr H locs uc us r (some (.ref x)) h HA2 (Or.inr (Or.inr (Or.inr ⟨nm, hret, hdec, Or.inr ⟨x, rfl⟩⟩))) (fun _ _ => rfl) (Nat.le_refl _) (Nat.le_refl _) huc hus hP hD hS
      · exact fin pc arr H locs uc us r (some .null) h HA2 (Or.inr (Or.inr (Or.inr ⟨nm, hret, hdec, Or.inl rfl⟩))) (fun _ _ => rfl) (Nat.le_refl _) (Nat.le_refl _) huc hus hP hD hS
      · exact HA2.elim
    · exact HA1.elim
  case return_ =>
    have h1 : 1 = len := hlen
    subst h1
    simp only [xm_wp] at H0
    split at H0
    · next hret =>
      split at H0
      · exact fin pc arr H locs uc us r none h H0 (Or.inr (Or.inr (Or.inl ⟨rfl, hdec, hret⟩))) (fun _ _ => rfl) (Nat.le_refl _) (Nat.le_refl _) huc hus hP hD hS
      · exact H0.elim
    · exact H0.elim
  all_goals exact H0.elim
