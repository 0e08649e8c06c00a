section LOP
variable {A : Nat → Nat → Int32} {L : Nat → Nat → Int64} {F : Nat → Nat → Int32} {P : Option Value → xm_H → Prop} {K n nb i j d Ln : Nat} {h : xm_H} {xs : Nat → Int32} {tc : (Nat → Int32) → Int32}
/-- of a call: cells in number as before, and what follows from what held -/
theorem xm_cons {S : xm_S} {ro : Nat} {av : List Value} {Q Q' : Option Value → xm_H → Prop} (hc : xm_Call K S ro av h Q) (hQ : ∀ v h', h'.length ≤ h.length + S.2.2.2.2.1 → Q v h' → Q' v h') : xm_Call K S ro av h Q' := by
  obtain ⟨h1, k, hk, h2⟩ := hc
  refine ⟨h1, k, hk, fun l D cA r sz => ?_⟩
  refine MetFree.mono (h2 l D cA r sz) (fun _ _ z => z) (fun _ _ _ _ _ z => z) (fun a s o s' _ hq => ?_)
  obtain ⟨⟨⟨r', v, h', e1, e2, e3, e4, e5, e6⟩, e7⟩, e8⟩ := hq
  exact ⟨⟨⟨r', v, h', e1, hQ v h' e5 e2, e3, e4, e5, e6⟩, e7⟩, e8⟩
def xm_oL (Ln : Nat) (xs : Nat → Int32) : xm_O := fun j => if j = 5 then some (Ln, xs) else xm_st j
theorem xm_oL_st : ∀ j q, xm_st j = some q → xm_oL Ln xs j = some q := fun j q hq => by
  unfold xm_oL
  by_cases e : j = 5
  · subst e; cases hq
  · rw [if_neg e]; exact hq
theorem xm_oL_5 (hl : h.length ≤ 1000) : xm_ar (xm_oL Ln xs) h 0 1005 = some (Ln, xs) := by
  unfold xm_ar; rw [List.getElem?_eq_none (by omega)]; rfl
theorem ld_L (hl : h.length ≤ 1000) (hL : Ln ≤ 3072) (hj : j < Ln) : xm_ld (xm_oL Ln xs) h 0 1005 (Int32.ofNat j) = some (xs j) := by
  unfold xm_ld
  rw [xm_oL_5 hl]
  show (if ¬ Int32.ofNat j < 0 ∧ (Int32.ofNat j).toNatClampNeg < Ln then some (xs (Int32.ofNat j).toNatClampNeg) else none) = _
  rw [xs_tn (by omega), if_pos ⟨xs_nn (by omega), hj⟩]
theorem ld_d (d : Nat) (hd : d < 6) (hl : h.length ≤ 1000) (hL : Ln ≤ 3072) (hi : i + 6 ≤ Ln) : xm_ld (xm_oL Ln xs) h 0 1005 (Int32.ofNat i + Int32.ofNat d) = some (xs (i + d)) := by
  rw [n_add]; exact ld_L hl hL (by omega)
theorem len_L (hl : h.length ≤ 1000) : xm_len (xm_oL Ln xs) h 1005 = some (Int32.ofNat Ln) := by
  unfold xm_len; rw [List.getElem?_eq_none (by omega)]; rfl
theorem hp81 : (HP A L F).length = 81 := rfl
abbrev atL (Ln : Nat) (xs : Nat → Int32) (K row : Nat) (x : Int32) (h : xm_H) (P : Option Value → xm_H → Prop) : Prop := xm_At (xm_oL Ln xs) K sL_law RL kL_law row 81 4351 [some (.ref 1005), some (.ref 0), some (.ref 44), some (.int x)] [] h P
def nxL (Ln : Nat) (xs : Nat → Int32) (K i : Nat) (P : Option Value → xm_H → Prop) : Prop := ∀ A L F n nb tc, INV A L F n nb tc → atL Ln xs K 10 (Int32.ofNat i + 6) (HP A L F) P
def laG (Ln : Nat) (xs : Nat → Int32) (K i : Nat) (P : Option Value → xm_H → Prop) : Int32 → Int32 → xm_H → Prop := fun c c' h' => if c = c' then atL Ln xs K 10 (Int32.ofNat i + 6) h' P else P (some (.int 0)) h'
def laGL (Ln : Nat) (xs : Nat → Int32) (K i : Nat) (P : Option Value → xm_H → Prop) : Int64 → Int64 → xm_H → Prop := fun c c' h' => if lg_cmp c c' = 0 then atL Ln xs K 10 (Int32.ofNat i + 6) h' P else P (some (.int 0)) h'
theorem laG_f (N : nxL Ln xs K i P) : Fin2 (laG Ln xs K i P) := fun v A L F n nb tc hI => by
  unfold laG; rw [if_pos rfl]; exact N A L F n nb tc hI
theorem lg_self (v : Int64) : lg_cmp v v = 0 := by
  unfold lg_cmp; simp
theorem laGL_f (N : nxL Ln xs K i P) : FinL (laGL Ln xs K i P) := fun v A L F n nb tc hI => by
  unfold laGL; rw [if_pos (lg_self v)]; exact N A L F n nb tc hI
theorem la_person (hK : 90 ≤ K) (hL : Ln ≤ 3072) (hi : i + 6 ≤ Ln) (hI : INV A L F n nb tc) (N : nxL Ln xs K i P) : atL Ln xs K 22 (Int32.ofNat i) (HP A L F) P := by
  refine xL_law_22 xm_oL_st ⟨_, ld_d 1 (by omega) (by rw [hp81]; omega) hL hi, ?_⟩
  refine xm_cons (st_person (g := laG Ln xs K i P) (by omega) hI (laG_f N)) (fun v h' hl0 hq => ?_)
  have hl : h'.length ≤ 1000 := by
    rw [hp81, show sX8_person.2.2.2.2.1 = 0 from rfl] at hl0; omega
  obtain ⟨c, rfl, hq⟩ := hq
  exact ⟨c, rfl, _, ld_d 1 (by omega) hl hL hi, hq⟩
theorem la_people (hK : 90 ≤ K) (hL : Ln ≤ 3072) (hi : i + 6 ≤ Ln) (hI : INV A L F n nb tc) (N : nxL Ln xs K i P) : atL Ln xs K 39 (Int32.ofNat i) (HP A L F) P := by
  refine xL_law_39 xm_oL_st ⟨_, ld_d 1 (by omega) (by rw [hp81]; omega) hL hi, _, ld_d 2 (by omega) (by rw [hp81]; omega) hL hi, _, ld_d 3 (by omega) (by rw [hp81]; omega) hL hi, ?_⟩
  refine xm_cons (st_people (g := laG Ln xs K i P) (by omega) hI (laG_f N)) (fun v h' hl0 hq => ?_)
  have hl : h'.length ≤ 1000 := by
    rw [hp81, show sX8_people.2.2.2.2.1 = 0 from rfl] at hl0; omega
  obtain ⟨c, rfl, hq⟩ := hq
  exact ⟨c, rfl, _, ld_d 1 (by omega) hl hL hi, _, ld_d 2 (by omega) hl hL hi, _, ld_d 3 (by omega) hl hL hi, hq⟩
theorem la_mend (hK : 90 ≤ K) (hL : Ln ≤ 3072) (hi : i + 6 ≤ Ln) (hI : INV A L F n nb tc) (N : nxL Ln xs K i P) : atL Ln xs K 76 (Int32.ofNat i) (HP A L F) P := by
  refine xL_law_76 xm_oL_st ⟨_, ld_d 1 (by omega) (by rw [hp81]; omega) hL hi, _, ld_d 2 (by omega) (by rw [hp81]; omega) hL hi, _, ld_d 3 (by omega) (by rw [hp81]; omega) hL hi, ?_⟩
  refine xm_cons (st_mend (g := laG Ln xs K i P) (by omega) hI (laG_f N)) (fun v h' hl0 hq => ?_)
  have hl : h'.length ≤ 1000 := by
    rw [hp81, show sX8_mend.2.2.2.2.1 = 0 from rfl] at hl0; omega
  obtain ⟨c, rfl, hq⟩ := hq
  exact ⟨c, rfl, _, ld_d 1 (by omega) hl hL hi, _, ld_d 2 (by omega) hl hL hi, _, ld_d 3 (by omega) hl hL hi, hq⟩
theorem la_of (hK : 90 ≤ K) (hL : Ln ≤ 3072) (hi : i + 6 ≤ Ln) (hI : INV A L F n nb tc) (N : nxL Ln xs K i P) : atL Ln xs K 113 (Int32.ofNat i) (HP A L F) P := by
  refine xL_law_113 xm_oL_st ⟨_, ld_d 1 (by omega) (by rw [hp81]; omega) hL hi, _, ld_d 2 (by omega) (by rw [hp81]; omega) hL hi, ?_⟩
  refine xm_cons (st_of (g := laG Ln xs K i P) (by omega) hI (laG_f N)) (fun v h' hl0 hq => ?_)
  have hl : h'.length ≤ 1000 := by
    rw [hp81, show sX8_of.2.2.2.2.1 = 0 from rfl] at hl0; omega
  obtain ⟨c, rfl, hq⟩ := hq
  exact ⟨c, rfl, _, ld_d 1 (by omega) hl hL hi, _, ld_d 2 (by omega) hl hL hi, hq⟩
theorem la_feed (hK : 90 ≤ K) (hL : Ln ≤ 3072) (hi : i + 6 ≤ Ln) (hI : INV A L F n nb tc) (N : nxL Ln xs K i P) : atL Ln xs K 140 (Int32.ofNat i) (HP A L F) P := by
  refine xL_law_140 xm_oL_st ⟨_, ld_d 1 (by omega) (by rw [hp81]; omega) hL hi, ?_⟩
  refine xm_cons (st_feed (g := laG Ln xs K i P) (by omega) hI (laG_f N)) (fun v h' hl0 hq => ?_)
  have hl : h'.length ≤ 1000 := by
    rw [hp81, show sX8_feed.2.2.2.2.1 = 0 from rfl] at hl0; omega
  obtain ⟨c, rfl, hq⟩ := hq
  exact ⟨c, rfl, _, ld_d 1 (by omega) hl hL hi, hq⟩
theorem la_law (hK : 90 ≤ K) (hL : Ln ≤ 3072) (hi : i + 6 ≤ Ln) (hI : INV A L F n nb tc) (N : nxL Ln xs K i P) : atL Ln xs K 157 (Int32.ofNat i) (HP A L F) P := by
  refine xL_law_157 xm_oL_st ?_
  refine xm_cons (st_law (g := laG Ln xs K i P) (by omega) hI (laG_f N)) (fun v h' hl0 hq => ?_)
  have hl : h'.length ≤ 1000 := by
    rw [hp81, show sX8_law.2.2.2.2.1 = 0 from rfl] at hl0; omega
  obtain ⟨c, rfl, hq⟩ := hq
  exact ⟨c, rfl, hq⟩
theorem la_counts (hK : 90 ≤ K) (hL : Ln ≤ 3072) (hi : i + 6 ≤ Ln) (hI : INV A L F n nb tc) (N : nxL Ln xs K i P) : atL Ln xs K 164 (Int32.ofNat i) (HP A L F) P := by
  refine xL_law_164 xm_oL_st ⟨_, ld_d 1 (by omega) (by rw [hp81]; omega) hL hi, ?_⟩
  refine xm_cons (st_counts (g := laG Ln xs K i P) (by omega) hI (laG_f N)) (fun v h' hl0 hq => ?_)
  have hl : h'.length ≤ 1000 := by
    rw [hp81, show sX8_counts.2.2.2.2.1 = 0 from rfl] at hl0; omega
  obtain ⟨c, rfl, hq⟩ := hq
  exact ⟨c, rfl, _, ld_d 1 (by omega) hl hL hi, hq⟩
theorem la_bill (hK : 90 ≤ K) (hL : Ln ≤ 3072) (hi : i + 6 ≤ Ln) (hI : INV A L F n nb tc) (N : nxL Ln xs K i P) : atL Ln xs K 181 (Int32.ofNat i) (HP A L F) P := by
  refine xL_law_181 xm_oL_st ⟨_, ld_d 1 (by omega) (by rw [hp81]; omega) hL hi, ?_⟩
  refine xm_cons (st_bill (g := laG Ln xs K i P) (by omega) hI (laG_f N)) (fun v h' hl0 hq => ?_)
  have hl : h'.length ≤ 1000 := by
    rw [hp81, show sX8_bill.2.2.2.2.1 = 0 from rfl] at hl0; omega
  obtain ⟨c, rfl, hq⟩ := hq
  exact ⟨c, rfl, _, ld_d 1 (by omega) hl hL hi, hq⟩
theorem la_share (hK : 90 ≤ K) (hL : Ln ≤ 3072) (hi : i + 6 ≤ Ln) (hI : INV A L F n nb tc) (N : nxL Ln xs K i P) : atL Ln xs K 198 (Int32.ofNat i) (HP A L F) P := by
  refine xL_law_198 xm_oL_st ⟨_, ld_d 1 (by omega) (by rw [hp81]; omega) hL hi, ?_⟩
  refine xm_cons (st_share (g := laG Ln xs K i P) (by omega) hI (laG_f N)) (fun v h' hl0 hq => ?_)
  have hl : h'.length ≤ 1000 := by
    rw [hp81, show sX8_share.2.2.2.2.1 = 0 from rfl] at hl0; omega
  obtain ⟨c, rfl, hq⟩ := hq
  exact ⟨c, rfl, _, ld_d 1 (by omega) hl hL hi, hq⟩
theorem la_worth (hK : 90 ≤ K) (hL : Ln ≤ 3072) (hi : i + 6 ≤ Ln) (hI : INV A L F n nb tc) (N : nxL Ln xs K i P) : atL Ln xs K 215 (Int32.ofNat i) (HP A L F) P := by
  refine xL_law_215 xm_oL_st ⟨_, ld_d 1 (by omega) (by rw [hp81]; omega) hL hi, ?_⟩
  refine xm_cons (st_worth (g := laG Ln xs K i P) (by omega) hI (laG_f N)) (fun v h' hl0 hq => ?_)
  have hl : h'.length ≤ 1000 := by
    rw [hp81, show sX8_worth.2.2.2.2.1 = 0 from rfl] at hl0; omega
  obtain ⟨c, rfl, hq⟩ := hq
  exact ⟨c, rfl, _, ld_d 1 (by omega) hl hL hi, hq⟩
theorem la_best (hK : 90 ≤ K) (hL : Ln ≤ 3072) (hi : i + 6 ≤ Ln) (hI : INV A L F n nb tc) (N : nxL Ln xs K i P) : atL Ln xs K 232 (Int32.ofNat i) (HP A L F) P := by
  refine xL_law_232 xm_oL_st ⟨_, ld_d 1 (by omega) (by rw [hp81]; omega) hL hi, _, ld_d 2 (by omega) (by rw [hp81]; omega) hL hi, ?_⟩
  refine xm_cons (st_best (g := laG Ln xs K i P) (by omega) hI (laG_f N)) (fun v h' hl0 hq => ?_)
  have hl : h'.length ≤ 1000 := by
    rw [hp81, show sX8_best.2.2.2.2.1 = 0 from rfl] at hl0; omega
  obtain ⟨c, rfl, hq⟩ := hq
  exact ⟨c, rfl, _, ld_d 1 (by omega) hl hL hi, _, ld_d 2 (by omega) hl hL hi, hq⟩
theorem la_atRest (hK : 90 ≤ K) (hL : Ln ≤ 3072) (hi : i + 6 ≤ Ln) (hI : INV A L F n nb tc) (N : nxL Ln xs K i P) : atL Ln xs K 259 (Int32.ofNat i) (HP A L F) P := by
  refine xL_law_259 xm_oL_st ?_
  refine xm_cons (st_atRest (g := laG Ln xs K i P) (by omega) hI (laG_f N)) (fun v h' hl0 hq => ?_)
  have hl : h'.length ≤ 1000 := by
    rw [hp81, show sX8_atRest.2.2.2.2.1 = 0 from rfl] at hl0; omega
  obtain ⟨c, rfl, hq⟩ := hq
  exact ⟨c, rfl, hq⟩
theorem la_rest (hK : 90 ≤ K) (hL : Ln ≤ 3072) (hi : i + 6 ≤ Ln) (hI : INV A L F n nb tc) (N : nxL Ln xs K i P) : atL Ln xs K 266 (Int32.ofNat i) (HP A L F) P := by
  refine xL_law_266 xm_oL_st ⟨_, ld_d 1 (by omega) (by rw [hp81]; omega) hL hi, ?_⟩
  refine xm_cons (st_rest (g := laG Ln xs K i P) (by omega) hI (laG_f N)) (fun v h' hl0 hq => ?_)
  have hl : h'.length ≤ 1000 := by
    rw [hp81, show sX8_rest.2.2.2.2.1 = 0 from rfl] at hl0; omega
  obtain ⟨c, rfl, hq⟩ := hq
  exact ⟨c, rfl, _, ld_d 1 (by omega) hl hL hi, hq⟩
theorem la_freeRate (hK : 90 ≤ K) (hL : Ln ≤ 3072) (hi : i + 6 ≤ Ln) (hI : INV A L F n nb tc) (N : nxL Ln xs K i P) : atL Ln xs K 283 (Int32.ofNat i) (HP A L F) P := by
  refine xL_law_283 xm_oL_st ?_
  refine xm_cons (st_freeRate (g := laG Ln xs K i P) (by omega) hI (laG_f N)) (fun v h' hl0 hq => ?_)
  have hl : h'.length ≤ 1000 := by
    rw [hp81, show sX8_freeRate.2.2.2.2.1 = 0 from rfl] at hl0; omega
  obtain ⟨c, rfl, hq⟩ := hq
  exact ⟨c, rfl, hq⟩
theorem la_pool (hK : 90 ≤ K) (hL : Ln ≤ 3072) (hi : i + 6 ≤ Ln) (hI : INV A L F n nb tc) (N : nxL Ln xs K i P) : atL Ln xs K 290 (Int32.ofNat i) (HP A L F) P := by
  refine xL_law_290 xm_oL_st ⟨_, ld_d 1 (by omega) (by rw [hp81]; omega) hL hi, _, ld_d 2 (by omega) (by rw [hp81]; omega) hL hi, ?_⟩
  refine xm_cons (st_pool (g := laG Ln xs K i P) (by omega) hI (laG_f N)) (fun v h' hl0 hq => ?_)
  have hl : h'.length ≤ 1000 := by
    rw [hp81, show sX8_pool.2.2.2.2.1 = 0 from rfl] at hl0; omega
  obtain ⟨c, rfl, hq⟩ := hq
  exact ⟨c, rfl, _, ld_d 1 (by omega) hl hL hi, _, ld_d 2 (by omega) hl hL hi, hq⟩
theorem la_spared (hK : 90 ≤ K) (hL : Ln ≤ 3072) (hi : i + 6 ≤ Ln) (hI : INV A L F n nb tc) (N : nxL Ln xs K i P) : atL Ln xs K 317 (Int32.ofNat i) (HP A L F) P := by
  refine xL_law_317 xm_oL_st ?_
  refine xm_cons (st_spared (g := laG Ln xs K i P) (by omega) hI (laG_f N)) (fun v h' hl0 hq => ?_)
  have hl : h'.length ≤ 1000 := by
    rw [hp81, show sX8_spared.2.2.2.2.1 = 0 from rfl] at hl0; omega
  obtain ⟨c, rfl, hq⟩ := hq
  exact ⟨c, rfl, hq⟩
theorem la_later (hK : 90 ≤ K) (hL : Ln ≤ 3072) (hi : i + 6 ≤ Ln) (hI : INV A L F n nb tc) (N : nxL Ln xs K i P) : atL Ln xs K 324 (Int32.ofNat i) (HP A L F) P := by
  refine xL_law_324 xm_oL_st ⟨_, ld_d 1 (by omega) (by rw [hp81]; omega) hL hi, _, ld_d 2 (by omega) (by rw [hp81]; omega) hL hi, _, ld_d 3 (by omega) (by rw [hp81]; omega) hL hi, ?_⟩
  refine xm_cons (st_later (g := laG Ln xs K i P) (by omega) hI (laG_f N)) (fun v h' hl0 hq => ?_)
  have hl : h'.length ≤ 1000 := by
    rw [hp81, show sX8_later.2.2.2.2.1 = 0 from rfl] at hl0; omega
  obtain ⟨c, rfl, hq⟩ := hq
  exact ⟨c, rfl, _, ld_d 1 (by omega) hl hL hi, _, ld_d 2 (by omega) hl hL hi, _, ld_d 3 (by omega) hl hL hi, hq⟩
theorem la_broke (hK : 90 ≤ K) (hL : Ln ≤ 3072) (hi : i + 6 ≤ Ln) (hI : INV A L F n nb tc) (N : nxL Ln xs K i P) : atL Ln xs K 361 (Int32.ofNat i) (HP A L F) P := by
  refine xL_law_361 xm_oL_st ⟨_, ld_d 1 (by omega) (by rw [hp81]; omega) hL hi, ?_⟩
  refine xm_cons (st_broke (g := laG Ln xs K i P) (by omega) hI (laG_f N)) (fun v h' hl0 hq => ?_)
  have hl : h'.length ≤ 1000 := by
    rw [hp81, show sX8_broke.2.2.2.2.1 = 0 from rfl] at hl0; omega
  obtain ⟨c, rfl, hq⟩ := hq
  exact ⟨c, rfl, _, ld_d 1 (by omega) hl hL hi, hq⟩
theorem la_thrift (hK : 90 ≤ K) (hL : Ln ≤ 3072) (hi : i + 6 ≤ Ln) (hI : INV A L F n nb tc) (N : nxL Ln xs K i P) : atL Ln xs K 378 (Int32.ofNat i) (HP A L F) P := by
  refine xL_law_378 xm_oL_st ⟨_, ld_d 1 (by omega) (by rw [hp81]; omega) hL hi, _, ld_d 2 (by omega) (by rw [hp81]; omega) hL hi, _, ld_d 3 (by omega) (by rw [hp81]; omega) hL hi, ?_⟩
  refine xm_cons (st_thrift (g := laG Ln xs K i P) (by omega) hI (laG_f N)) (fun v h' hl0 hq => ?_)
  have hl : h'.length ≤ 1000 := by
    rw [hp81, show sX8_thrift.2.2.2.2.1 = 0 from rfl] at hl0; omega
  obtain ⟨c, rfl, hq⟩ := hq
  exact ⟨c, rfl, _, ld_d 1 (by omega) hl hL hi, _, ld_d 2 (by omega) hl hL hi, _, ld_d 3 (by omega) hl hL hi, hq⟩
theorem la_judge (hK : 90 ≤ K) (hL : Ln ≤ 3072) (hi : i + 6 ≤ Ln) (hI : INV A L F n nb tc) (N : nxL Ln xs K i P) : atL Ln xs K 415 (Int32.ofNat i) (HP A L F) P := by
  refine xL_law_415 xm_oL_st ⟨_, ld_d 1 (by omega) (by rw [hp81]; omega) hL hi, ?_⟩
  refine xm_cons (st_judge (g := laG Ln xs K i P) (by omega) hI (laG_f N)) (fun v h' hl0 hq => ?_)
  have hl : h'.length ≤ 1000 := by
    rw [hp81, show sX8_judge.2.2.2.2.1 = 0 from rfl] at hl0; omega
  obtain ⟨c, rfl, hq⟩ := hq
  exact ⟨c, rfl, _, ld_d 1 (by omega) hl hL hi, hq⟩
theorem la_fits (hK : 90 ≤ K) (hL : Ln ≤ 3072) (hi : i + 6 ≤ Ln) (hI : INV A L F n nb tc) (N : nxL Ln xs K i P) : atL Ln xs K 432 (Int32.ofNat i) (HP A L F) P := by
  refine xL_law_432 xm_oL_st ⟨_, ld_d 1 (by omega) (by rw [hp81]; omega) hL hi, _, ld_d 2 (by omega) (by rw [hp81]; omega) hL hi, _, ld_d 3 (by omega) (by rw [hp81]; omega) hL hi, ?_⟩
  refine xm_cons (st_fits (g := laG Ln xs K i P) (by omega) hI (laG_f N)) (fun v h' hl0 hq => ?_)
  have hl : h'.length ≤ 1000 := by
    rw [hp81, show sX8_fits.2.2.2.2.1 = 0 from rfl] at hl0; omega
  obtain ⟨c, rfl, hq⟩ := hq
  exact ⟨c, rfl, _, ld_d 1 (by omega) hl hL hi, _, ld_d 2 (by omega) hl hL hi, _, ld_d 3 (by omega) hl hL hi, hq⟩
theorem la_said (hK : 90 ≤ K) (hL : Ln ≤ 3072) (hi : i + 6 ≤ Ln) (hI : INV A L F n nb tc) (N : nxL Ln xs K i P) : atL Ln xs K 469 (Int32.ofNat i) (HP A L F) P := by
  refine xL_law_469 xm_oL_st ⟨_, ld_d 1 (by omega) (by rw [hp81]; omega) hL hi, ?_⟩
  refine xm_cons (st_said (g := laG Ln xs K i P) (by omega) hI (laG_f N)) (fun v h' hl0 hq => ?_)
  have hl : h'.length ≤ 1000 := by
    rw [hp81, show sX8_said.2.2.2.2.1 = 0 from rfl] at hl0; omega
  obtain ⟨c, rfl, hq⟩ := hq
  exact ⟨c, rfl, _, ld_d 1 (by omega) hl hL hi, hq⟩
theorem la_byTurns (hK : 90 ≤ K) (hL : Ln ≤ 3072) (hi : i + 6 ≤ Ln) (hI : INV A L F n nb tc) (N : nxL Ln xs K i P) : atL Ln xs K 486 (Int32.ofNat i) (HP A L F) P := by
  refine xL_law_486 xm_oL_st ⟨_, ld_d 1 (by omega) (by rw [hp81]; omega) hL hi, _, ld_d 2 (by omega) (by rw [hp81]; omega) hL hi, _, ld_d 3 (by omega) (by rw [hp81]; omega) hL hi, ?_⟩
  refine xm_cons (st_byTurns (g := laG Ln xs K i P) (by omega) hI (laG_f N)) (fun v h' hl0 hq => ?_)
  have hl : h'.length ≤ 1000 := by
    rw [hp81, show sX8_byTurns.2.2.2.2.1 = 0 from rfl] at hl0; omega
  obtain ⟨c, rfl, hq⟩ := hq
  exact ⟨c, rfl, _, ld_d 1 (by omega) hl hL hi, _, ld_d 2 (by omega) hl hL hi, _, ld_d 3 (by omega) hl hL hi, hq⟩
theorem la_drawn (hK : 90 ≤ K) (hL : Ln ≤ 3072) (hi : i + 6 ≤ Ln) (hI : INV A L F n nb tc) (N : nxL Ln xs K i P) : atL Ln xs K 523 (Int32.ofNat i) (HP A L F) P := by
  refine xL_law_523 xm_oL_st ⟨_, ld_d 1 (by omega) (by rw [hp81]; omega) hL hi, _, ld_d 2 (by omega) (by rw [hp81]; omega) hL hi, _, ld_d 3 (by omega) (by rw [hp81]; omega) hL hi, ?_⟩
  refine xm_cons (st_drawn (g := laG Ln xs K i P) (by omega) hI (laG_f N)) (fun v h' hl0 hq => ?_)
  have hl : h'.length ≤ 1000 := by
    rw [hp81, show sX8_drawn.2.2.2.2.1 = 0 from rfl] at hl0; omega
  obtain ⟨c, rfl, hq⟩ := hq
  exact ⟨c, rfl, _, ld_d 1 (by omega) hl hL hi, _, ld_d 2 (by omega) hl hL hi, _, ld_d 3 (by omega) hl hL hi, hq⟩
theorem la_takes (hK : 90 ≤ K) (hL : Ln ≤ 3072) (hi : i + 6 ≤ Ln) (hI : INV A L F n nb tc) (N : nxL Ln xs K i P) : atL Ln xs K 560 (Int32.ofNat i) (HP A L F) P := by
  refine xL_law_560 xm_oL_st ⟨_, ld_d 1 (by omega) (by rw [hp81]; omega) hL hi, _, ld_d 2 (by omega) (by rw [hp81]; omega) hL hi, ?_⟩
  refine xm_cons (st_takes (g := laG Ln xs K i P) (by omega) hI (laG_f N)) (fun v h' hl0 hq => ?_)
  have hl : h'.length ≤ 1000 := by
    rw [hp81, show sX8_takes.2.2.2.2.1 = 0 from rfl] at hl0; omega
  obtain ⟨c, rfl, hq⟩ := hq
  exact ⟨c, rfl, _, ld_d 1 (by omega) hl hL hi, _, ld_d 2 (by omega) hl hL hi, hq⟩
theorem la_hears (hK : 90 ≤ K) (hL : Ln ≤ 3072) (hi : i + 6 ≤ Ln) (hI : INV A L F n nb tc) (N : nxL Ln xs K i P) : atL Ln xs K 587 (Int32.ofNat i) (HP A L F) P := by
  refine xL_law_587 xm_oL_st ⟨_, ld_d 1 (by omega) (by rw [hp81]; omega) hL hi, _, ld_d 2 (by omega) (by rw [hp81]; omega) hL hi, ?_⟩
  refine xm_cons (st_hears (g := laG Ln xs K i P) (by omega) hI (laG_f N)) (fun v h' hl0 hq => ?_)
  have hl : h'.length ≤ 1000 := by
    rw [hp81, show sX8_hears.2.2.2.2.1 = 0 from rfl] at hl0; omega
  obtain ⟨c, rfl, hq⟩ := hq
  exact ⟨c, rfl, _, ld_d 1 (by omega) hl hL hi, _, ld_d 2 (by omega) hl hL hi, hq⟩
theorem la_year (hK : 90 ≤ K) (hL : Ln ≤ 3072) (hi : i + 6 ≤ Ln) (hI : INV A L F n nb tc) (N : nxL Ln xs K i P) : atL Ln xs K 614 (Int32.ofNat i) (HP A L F) P := by
  refine xL_law_614 xm_oL_st ?_
  refine xm_cons (st_year (g := laG Ln xs K i P) (by omega) hI (laG_f N)) (fun v h' hl0 hq => ?_)
  have hl : h'.length ≤ 1000 := by
    rw [hp81, show sX8_year.2.2.2.2.1 = 0 from rfl] at hl0; omega
  obtain ⟨c, rfl, hq⟩ := hq
  exact ⟨c, rfl, hq⟩
theorem la_gives (hK : 90 ≤ K) (hL : Ln ≤ 3072) (hi : i + 6 ≤ Ln) (hI : INV A L F n nb tc) (N : nxL Ln xs K i P) : atL Ln xs K 621 (Int32.ofNat i) (HP A L F) P := by
  refine xL_law_621 xm_oL_st ⟨_, ld_d 1 (by omega) (by rw [hp81]; omega) hL hi, _, ld_d 2 (by omega) (by rw [hp81]; omega) hL hi, _, ld_d 3 (by omega) (by rw [hp81]; omega) hL hi, ?_⟩
  refine xm_cons (st_gives (g := laG Ln xs K i P) (by omega) hI (laG_f N)) (fun v h' hl0 hq => ?_)
  have hl : h'.length ≤ 1000 := by
    rw [hp81, show sX8_gives.2.2.2.2.1 = 0 from rfl] at hl0; omega
  obtain ⟨c, rfl, hq⟩ := hq
  exact ⟨c, rfl, _, ld_d 1 (by omega) hl hL hi, _, ld_d 2 (by omega) hl hL hi, _, ld_d 3 (by omega) hl hL hi, hq⟩
theorem la_led (hK : 90 ≤ K) (hL : Ln ≤ 3072) (hi : i + 6 ≤ Ln) (hI : INV A L F n nb tc) (N : nxL Ln xs K i P) : atL Ln xs K 658 (Int32.ofNat i) (HP A L F) P := by
  refine xL_law_658 xm_oL_st ⟨_, ld_d 1 (by omega) (by rw [hp81]; omega) hL hi, ?_⟩
  refine xm_cons (st_led (g := laG Ln xs K i P) (by omega) hI (laG_f N)) (fun v h' hl0 hq => ?_)
  have hl : h'.length ≤ 1000 := by
    rw [hp81, show sX8_led.2.2.2.2.1 = 0 from rfl] at hl0; omega
  obtain ⟨c, rfl, hq⟩ := hq
  exact ⟨c, rfl, _, ld_d 1 (by omega) hl hL hi, hq⟩
theorem la_image (hK : 90 ≤ K) (hL : Ln ≤ 3072) (hi : i + 6 ≤ Ln) (hI : INV A L F n nb tc) (N : nxL Ln xs K i P) : atL Ln xs K 675 (Int32.ofNat i) (HP A L F) P := by
  refine xL_law_675 xm_oL_st ?_
  refine xm_cons (st_image (g := laG Ln xs K i P) (by omega) hI (laG_f N)) (fun v h' hl0 hq => ?_)
  have hl : h'.length ≤ 1000 := by
    rw [hp81, show sX8_image.2.2.2.2.1 = 0 from rfl] at hl0; omega
  obtain ⟨c, rfl, hq⟩ := hq
  exact ⟨c, rfl, hq⟩
theorem la_back (hK : 90 ≤ K) (hL : Ln ≤ 3072) (hi : i + 6 ≤ Ln) (hI : INV A L F n nb tc) (N : nxL Ln xs K i P) : atL Ln xs K 682 (Int32.ofNat i) (HP A L F) P := by
  refine xL_law_682 xm_oL_st ?_
  refine xm_cons (st_back (g := laG Ln xs K i P) (by omega) hI (laG_f N)) (fun v h' hl0 hq => ?_)
  have hl : h'.length ≤ 1000 := by
    rw [hp81, show sX8_back.2.2.2.2.1 = 0 from rfl] at hl0; omega
  obtain ⟨c, rfl, hq⟩ := hq
  exact ⟨c, rfl, hq⟩
theorem la_undo (hK : 90 ≤ K) (hL : Ln ≤ 3072) (hi : i + 6 ≤ Ln) (hI : INV A L F n nb tc) (N : nxL Ln xs K i P) : atL Ln xs K 689 (Int32.ofNat i) (HP A L F) P := by
  refine xL_law_689 xm_oL_st ?_
  refine xm_cons (st_undo (g := laG Ln xs K i P) (by omega) hI (laG_f N)) (fun v h' hl0 hq => ?_)
  have hl : h'.length ≤ 1000 := by
    rw [hp81, show sX8_undo.2.2.2.2.1 = 0 from rfl] at hl0; omega
  obtain ⟨c, rfl, hq⟩ := hq
  exact ⟨c, rfl, hq⟩
theorem la_redo (hK : 90 ≤ K) (hL : Ln ≤ 3072) (hi : i + 6 ≤ Ln) (hI : INV A L F n nb tc) (N : nxL Ln xs K i P) : atL Ln xs K 696 (Int32.ofNat i) (HP A L F) P := by
  refine xL_law_696 xm_oL_st ?_
  refine xm_cons (st_redo (g := laG Ln xs K i P) (by omega) hI (laG_f N)) (fun v h' hl0 hq => ?_)
  have hl : h'.length ≤ 1000 := by
    rw [hp81, show sX8_redo.2.2.2.2.1 = 0 from rfl] at hl0; omega
  obtain ⟨c, rfl, hq⟩ := hq
  exact ⟨c, rfl, hq⟩
theorem la_body (hK : 90 ≤ K) (hL : Ln ≤ 3072) (hi : i + 6 ≤ Ln) (hI : INV A L F n nb tc) (N : nxL Ln xs K i P) : atL Ln xs K 703 (Int32.ofNat i) (HP A L F) P := by
  refine xL_law_703 xm_oL_st ⟨_, ld_d 1 (by omega) (by rw [hp81]; omega) hL hi, ?_⟩
  refine xm_cons (st_body (g := laG Ln xs K i P) (by omega) hI (laG_f N)) (fun v h' hl0 hq => ?_)
  have hl : h'.length ≤ 1000 := by
    rw [hp81, show sX8_body.2.2.2.2.1 = 0 from rfl] at hl0; omega
  obtain ⟨c, rfl, hq⟩ := hq
  exact ⟨c, rfl, _, ld_d 1 (by omega) hl hL hi, hq⟩
theorem la_act (hK : 90 ≤ K) (hL : Ln ≤ 3072) (hi : i + 6 ≤ Ln) (hI : INV A L F n nb tc) (N : nxL Ln xs K i P) : atL Ln xs K 720 (Int32.ofNat i) (HP A L F) P := by
  refine xL_law_720 xm_oL_st ⟨_, ld_d 1 (by omega) (by rw [hp81]; omega) hL hi, _, ld_d 2 (by omega) (by rw [hp81]; omega) hL hi, _, ld_d 3 (by omega) (by rw [hp81]; omega) hL hi, ?_⟩
  refine xm_cons (st_act (g := laG Ln xs K i P) (by omega) hI (laG_f N)) (fun v h' hl0 hq => ?_)
  have hl : h'.length ≤ 1000 := by
    rw [hp81, show sX8_act.2.2.2.2.1 = 0 from rfl] at hl0; omega
  obtain ⟨c, rfl, hq⟩ := hq
  exact ⟨c, rfl, _, ld_d 1 (by omega) hl hL hi, _, ld_d 2 (by omega) hl hL hi, _, ld_d 3 (by omega) hl hL hi, hq⟩
theorem la_trace (hK : 90 ≤ K) (hL : Ln ≤ 3072) (hi : i + 6 ≤ Ln) (hI : INV A L F n nb tc) (N : nxL Ln xs K i P) : atL Ln xs K 757 (Int32.ofNat i) (HP A L F) P := by
  refine xL_law_757 xm_oL_st ⟨_, ld_d 1 (by omega) (by rw [hp81]; omega) hL hi, ?_⟩
  refine xm_cons (st_trace (g := laG Ln xs K i P) (by omega) hI (laG_f N)) (fun v h' hl0 hq => ?_)
  have hl : h'.length ≤ 1000 := by
    rw [hp81, show sX8_trace.2.2.2.2.1 = 0 from rfl] at hl0; omega
  obtain ⟨c, rfl, hq⟩ := hq
  exact ⟨c, rfl, _, ld_d 1 (by omega) hl hL hi, hq⟩
theorem la_keep (hK : 90 ≤ K) (hL : Ln ≤ 3072) (hi : i + 6 ≤ Ln) (hI : INV A L F n nb tc) (N : nxL Ln xs K i P) : atL Ln xs K 774 (Int32.ofNat i) (HP A L F) P := by
  refine xL_law_774 xm_oL_st ⟨_, ld_d 1 (by omega) (by rw [hp81]; omega) hL hi, _, ld_d 2 (by omega) (by rw [hp81]; omega) hL hi, ?_⟩
  refine xm_cons (st_keep (g := laG Ln xs K i P) (by omega) hI (laG_f N)) (fun v h' hl0 hq => ?_)
  have hl : h'.length ≤ 1000 := by
    rw [hp81, show sX8_keep.2.2.2.2.1 = 0 from rfl] at hl0; omega
  obtain ⟨c, rfl, hq⟩ := hq
  exact ⟨c, rfl, _, ld_d 1 (by omega) hl hL hi, _, ld_d 2 (by omega) hl hL hi, hq⟩
theorem la_row (hK : 90 ≤ K) (hL : Ln ≤ 3072) (hi : i + 6 ≤ Ln) (hI : INV A L F n nb tc) (N : nxL Ln xs K i P) : atL Ln xs K 801 (Int32.ofNat i) (HP A L F) P := by
  refine xL_law_801 xm_oL_st ⟨_, ld_d 1 (by omega) (by rw [hp81]; omega) hL hi, _, ld_d 2 (by omega) (by rw [hp81]; omega) hL hi, _, ld_d 3 (by omega) (by rw [hp81]; omega) hL hi, ?_⟩
  refine xm_cons (st_row (g := laG Ln xs K i P) (by omega) hI (laG_f N)) (fun v h' hl0 hq => ?_)
  have hl : h'.length ≤ 1000 := by
    rw [hp81, show sX8_row.2.2.2.2.1 = 0 from rfl] at hl0; omega
  obtain ⟨c, rfl, hq⟩ := hq
  exact ⟨c, rfl, _, ld_d 1 (by omega) hl hL hi, _, ld_d 2 (by omega) hl hL hi, _, ld_d 3 (by omega) hl hL hi, hq⟩
theorem la_put (hK : 90 ≤ K) (hL : Ln ≤ 3072) (hi : i + 6 ≤ Ln) (hI : INV A L F n nb tc) (N : nxL Ln xs K i P) : atL Ln xs K 838 (Int32.ofNat i) (HP A L F) P := by
  refine xL_law_838 xm_oL_st ⟨_, ld_d 1 (by omega) (by rw [hp81]; omega) hL hi, _, ld_d 2 (by omega) (by rw [hp81]; omega) hL hi, _, ld_d 3 (by omega) (by rw [hp81]; omega) hL hi, _, ld_d 4 (by omega) (by rw [hp81]; omega) hL hi, ?_⟩
  refine xm_cons (st_put (g := laG Ln xs K i P) (by omega) hI (laG_f N)) (fun v h' hl0 hq => ?_)
  have hl : h'.length ≤ 1000 := by
    rw [hp81, show sX8_put.2.2.2.2.1 = 0 from rfl] at hl0; omega
  obtain ⟨c, rfl, hq⟩ := hq
  exact ⟨c, rfl, _, ld_d 1 (by omega) hl hL hi, _, ld_d 2 (by omega) hl hL hi, _, ld_d 3 (by omega) hl hL hi, _, ld_d 4 (by omega) hl hL hi, hq⟩
theorem la_element (hK : 90 ≤ K) (hL : Ln ≤ 3072) (hi : i + 6 ≤ Ln) (hI : INV A L F n nb tc) (N : nxL Ln xs K i P) : atL Ln xs K 899 (Int32.ofNat i) (HP A L F) P := by
  refine xL_law_899 xm_oL_st ⟨_, ld_d 1 (by omega) (by rw [hp81]; omega) hL hi, _, ld_d 2 (by omega) (by rw [hp81]; omega) hL hi, ?_⟩
  refine xm_cons (st_element (g := laGL Ln xs K i P) (by omega) hI (laGL_f N)) (fun v h' hl0 hq => ?_)
  have hl : h'.length ≤ 1000 := by
    rw [hp81, show sX8_element.2.2.2.2.1 = 0 from rfl] at hl0; omega
  obtain ⟨c, rfl, hq⟩ := hq
  exact ⟨c, rfl, _, ld_d 1 (by omega) hl hL hi, _, ld_d 2 (by omega) hl hL hi, hq⟩
theorem la_shift (hK : 90 ≤ K) (hL : Ln ≤ 3072) (hi : i + 6 ≤ Ln) (hI : INV A L F n nb tc) (N : nxL Ln xs K i P) : atL Ln xs K 927 (Int32.ofNat i) (HP A L F) P := by
  refine xL_law_927 xm_oL_st ⟨_, ld_d 1 (by omega) (by rw [hp81]; omega) hL hi, _, ld_d 2 (by omega) (by rw [hp81]; omega) hL hi, _, ld_d 3 (by omega) (by rw [hp81]; omega) hL hi, _, ld_d 4 (by omega) (by rw [hp81]; omega) hL hi, _, ld_d 5 (by omega) (by rw [hp81]; omega) hL hi, ?_⟩
  refine xm_cons (st_shift (g := laG Ln xs K i P) (by omega) hI (laG_f N)) (fun v h' hl0 hq => ?_)
  have hl : h'.length ≤ 1000 := by
    rw [hp81, show sX8_shift.2.2.2.2.1 = 0 from rfl] at hl0; omega
  obtain ⟨c, rfl, hq⟩ := hq
  exact ⟨c, rfl, _, ld_d 1 (by omega) hl hL hi, _, ld_d 2 (by omega) hl hL hi, _, ld_d 3 (by omega) hl hL hi, _, ld_d 4 (by omega) hl hL hi, _, ld_d 5 (by omega) hl hL hi, hq⟩
theorem la_taken (hK : 90 ≤ K) (hL : Ln ≤ 3072) (hi : i + 6 ≤ Ln) (hI : INV A L F n nb tc) (N : nxL Ln xs K i P) : atL Ln xs K 984 (Int32.ofNat i) (HP A L F) P := by
  refine xL_law_984 xm_oL_st ⟨_, ld_d 1 (by omega) (by rw [hp81]; omega) hL hi, _, ld_d 2 (by omega) (by rw [hp81]; omega) hL hi, ?_⟩
  refine xm_cons (st_taken (g := laG Ln xs K i P) (by omega) hI (laG_f N)) (fun v h' hl0 hq => ?_)
  have hl : h'.length ≤ 1000 := by
    rw [hp81, show sX8_taken.2.2.2.2.1 = 0 from rfl] at hl0; omega
  obtain ⟨c, rfl, hq⟩ := hq
  exact ⟨c, rfl, _, ld_d 1 (by omega) hl hL hi, _, ld_d 2 (by omega) hl hL hi, hq⟩
theorem la_count (hK : 90 ≤ K) (hL : Ln ≤ 3072) (hi : i + 6 ≤ Ln) (hI : INV A L F n nb tc) (N : nxL Ln xs K i P) : atL Ln xs K 1011 (Int32.ofNat i) (HP A L F) P := by
  refine xL_law_1011 xm_oL_st ⟨_, ld_d 1 (by omega) (by rw [hp81]; omega) hL hi, ?_⟩
  refine xm_cons (st_count (g := laG Ln xs K i P) (by omega) hI (laG_f N)) (fun v h' hl0 hq => ?_)
  have hl : h'.length ≤ 1000 := by
    rw [hp81, show sX8_count.2.2.2.2.1 = 0 from rfl] at hl0; omega
  obtain ⟨c, rfl, hq⟩ := hq
  exact ⟨c, rfl, _, ld_d 1 (by omega) hl hL hi, hq⟩
theorem n_l6 (hL : Ln ≤ 3072) (hi : i ≤ 4000) : (Int32.ofNat Ln - 6 < Int32.ofNat i) ↔ Ln < i + 6 := by
  by_cases h6 : 6 ≤ Ln
  · obtain ⟨d, rfl⟩ := Nat.exists_eq_add_of_le h6
    have e : Int32.ofNat (6 + d) - 6 = Int32.ofNat d := by rw [Nat.add_comm, ← n_add]; exact Int32.add_sub_cancel _ _
    rw [e, n_lt (by omega) (by omega)]; omega
  · have z : ∀ q, q < 6 → Int32.ofNat q - 6 < 0 := by decide +kernel
    have z1 := z Ln (by omega)
    have z2 : (0 : Int32).toInt = 0 := rfl
    rw [Int32.lt_iff_toInt_lt] at z1
    rw [Int32.lt_iff_toInt_lt, n_ti (by omega)]
    constructor <;> intro _ <;> omega
set_option maxRecDepth 100000 in
set_option maxHeartbeats 4000000 in
theorem law_loop (hK : 90 ≤ K) (hL : Ln ≤ 3072) (H1 : ∀ h, P (some (.int 1)) h) : ∀ (f i : Nat) (A : Nat → Nat → Int32) (L : Nat → Nat → Int64) (F : Nat → Nat → Int32) (n nb : Nat) (tc : (Nat → Int32) → Int32), Ln < i + f → i ≤ 3200 → INV A L F n nb tc → atL Ln xs K 10 (Int32.ofNat i) (HP A L F) P := by
  intro f
  induction f with
  | zero =>
    intro i A L F n nb tc hf hi hI
    refine xL_law_10 xm_oL_st ⟨_, len_L (by rw [hp81]; omega), ?_⟩
    rw [if_pos ((n_l6 hL (by omega)).mpr (by omega))]
    exact H1 _
  | succ f ih =>
    intro i A L F n nb tc hf hi hI
    refine xL_law_10 xm_oL_st ⟨_, len_L (by rw [hp81]; omega), ?_⟩
    by_cases hlt : Ln < i + 6
    · rw [if_pos ((n_l6 hL (by omega)).mpr hlt)]
      exact H1 _
    rw [if_neg (fun z => hlt ((n_l6 hL (by omega)).mp z))]
    refine ⟨_, ld_L (by rw [hp81]; omega) hL (by omega), ?_⟩
    have hi6 : i + 6 ≤ Ln := by omega
    have N : nxL Ln xs K i P := fun A L F n nb tc hI => by
      rw [show Int32.ofNat i + 6 = Int32.ofNat (i + 6) from n_add i 6]
      exact ih (i + 6) A L F n nb tc (by omega) (by omega) hI
    generalize xs i &&& (63 : Int32) = c
    by_cases c0 : c = 0
    · rw [if_pos c0]; exact la_person hK hL hi6 hI N
    rw [if_neg c0]
    by_cases c1 : c = 1
    · rw [if_pos c1]; exact la_people hK hL hi6 hI N
    rw [if_neg c1]
    by_cases c2 : c = 2
    · rw [if_pos c2]; exact la_mend hK hL hi6 hI N
    rw [if_neg c2]
    by_cases c3 : c = 3
    · rw [if_pos c3]; exact la_of hK hL hi6 hI N
    rw [if_neg c3]
    by_cases c4 : c = 4
    · rw [if_pos c4]; exact la_feed hK hL hi6 hI N
    rw [if_neg c4]
    by_cases c5 : c = 5
    · rw [if_pos c5]; exact la_law hK hL hi6 hI N
    rw [if_neg c5]
    by_cases c6 : c = 6
    · rw [if_pos c6]; exact la_counts hK hL hi6 hI N
    rw [if_neg c6]
    by_cases c7 : c = 7
    · rw [if_pos c7]; exact la_bill hK hL hi6 hI N
    rw [if_neg c7]
    by_cases c8 : c = 8
    · rw [if_pos c8]; exact la_share hK hL hi6 hI N
    rw [if_neg c8]
    by_cases c9 : c = 9
    · rw [if_pos c9]; exact la_worth hK hL hi6 hI N
    rw [if_neg c9]
    by_cases c10 : c = 10
    · rw [if_pos c10]; exact la_best hK hL hi6 hI N
    rw [if_neg c10]
    by_cases c11 : c = 11
    · rw [if_pos c11]; exact la_atRest hK hL hi6 hI N
    rw [if_neg c11]
    by_cases c12 : c = 12
    · rw [if_pos c12]; exact la_rest hK hL hi6 hI N
    rw [if_neg c12]
    by_cases c13 : c = 13
    · rw [if_pos c13]; exact la_freeRate hK hL hi6 hI N
    rw [if_neg c13]
    by_cases c14 : c = 14
    · rw [if_pos c14]; exact la_pool hK hL hi6 hI N
    rw [if_neg c14]
    by_cases c15 : c = 15
    · rw [if_pos c15]; exact la_spared hK hL hi6 hI N
    rw [if_neg c15]
    by_cases c16 : c = 16
    · rw [if_pos c16]; exact la_later hK hL hi6 hI N
    rw [if_neg c16]
    by_cases c17 : c = 17
    · rw [if_pos c17]; exact la_broke hK hL hi6 hI N
    rw [if_neg c17]
    by_cases c18 : c = 18
    · rw [if_pos c18]; exact la_thrift hK hL hi6 hI N
    rw [if_neg c18]
    by_cases c19 : c = 19
    · rw [if_pos c19]; exact la_judge hK hL hi6 hI N
    rw [if_neg c19]
    by_cases c20 : c = 20
    · rw [if_pos c20]; exact la_fits hK hL hi6 hI N
    rw [if_neg c20]
    by_cases c21 : c = 21
    · rw [if_pos c21]; exact la_said hK hL hi6 hI N
    rw [if_neg c21]
    by_cases c22 : c = 22
    · rw [if_pos c22]; exact la_byTurns hK hL hi6 hI N
    rw [if_neg c22]
    by_cases c23 : c = 23
    · rw [if_pos c23]; exact la_drawn hK hL hi6 hI N
    rw [if_neg c23]
    by_cases c24 : c = 24
    · rw [if_pos c24]; exact la_takes hK hL hi6 hI N
    rw [if_neg c24]
    by_cases c25 : c = 25
    · rw [if_pos c25]; exact la_hears hK hL hi6 hI N
    rw [if_neg c25]
    by_cases c26 : c = 26
    · rw [if_pos c26]; exact la_year hK hL hi6 hI N
    rw [if_neg c26]
    by_cases c27 : c = 27
    · rw [if_pos c27]; exact la_gives hK hL hi6 hI N
    rw [if_neg c27]
    by_cases c28 : c = 28
    · rw [if_pos c28]; exact la_led hK hL hi6 hI N
    rw [if_neg c28]
    by_cases c29 : c = 29
    · rw [if_pos c29]; exact la_image hK hL hi6 hI N
    rw [if_neg c29]
    by_cases c30 : c = 30
    · rw [if_pos c30]; exact la_back hK hL hi6 hI N
    rw [if_neg c30]
    by_cases c31 : c = 31
    · rw [if_pos c31]; exact la_undo hK hL hi6 hI N
    rw [if_neg c31]
    by_cases c32 : c = 32
    · rw [if_pos c32]; exact la_redo hK hL hi6 hI N
    rw [if_neg c32]
    by_cases c33 : c = 33
    · rw [if_pos c33]; exact la_body hK hL hi6 hI N
    rw [if_neg c33]
    by_cases c34 : c = 34
    · rw [if_pos c34]; exact la_act hK hL hi6 hI N
    rw [if_neg c34]
    by_cases c35 : c = 35
    · rw [if_pos c35]; exact la_trace hK hL hi6 hI N
    rw [if_neg c35]
    by_cases c36 : c = 36
    · rw [if_pos c36]; exact la_keep hK hL hi6 hI N
    rw [if_neg c36]
    by_cases c37 : c = 37
    · rw [if_pos c37]; exact la_row hK hL hi6 hI N
    rw [if_neg c37]
    by_cases c38 : c = 38
    · rw [if_pos c38]; exact la_put hK hL hi6 hI N
    rw [if_neg c38]
    by_cases c39 : c = 39
    · rw [if_pos c39]; exact la_element hK hL hi6 hI N
    rw [if_neg c39]
    by_cases c40 : c = 40
    · rw [if_pos c40]; exact la_shift hK hL hi6 hI N
    rw [if_neg c40]
    by_cases c41 : c = 41
    · rw [if_pos c41]; exact la_taken hK hL hi6 hI N
    rw [if_neg c41]
    by_cases c42 : c = 42
    · rw [if_pos c42]; exact la_count hK hL hi6 hI N
    rw [if_neg c42]
    exact N A L F n nb tc hI
end LOP
