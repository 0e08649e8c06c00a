section NEW
variable {gv : xm_H → Prop} {P : Option Value → xm_H → Prop} {K n m k c i j t N : Nat} {h : xm_H} {fs : List Value} {r : List xm_E} {v : Value} {z : xm_E} {x : Int32} {f : Nat → Int32}
theorem ap_get (hn : h.length = n) {e : xm_E} : (h ++ e :: r)[n]? = some e := by
  subst hn; rw [List.getElem?_append_right (Nat.le_refl _), Nat.sub_self]; rfl
theorem ap_set (hn : h.length = n) {e e' : xm_E} : (h ++ e :: r).set n e' = h ++ e' :: r := by
  subst hn; rw [List.set_append_right _ _ (Nat.le_refl _), Nat.sub_self]; rfl
theorem ap_put (hn : h.length = n) (hk : k < fs.length) : xm_put (h ++ .inr (c, fs) :: r) n c k v = some (h ++ .inr (c, fs.set k v) :: r) := by
  unfold xm_put
  rw [ap_get hn]
  show (if c = c ∧ k < fs.length then some ((h ++ .inr (c, fs) :: r).set n (.inr (c, fs.set k v))) else none) = _
  rw [if_pos ⟨rfl, hk⟩, ap_set hn]
theorem ap_new (hn : h.length = n) (hk : k < fs.length) (hr : n + r.length + 1 = m) : xm_put ((h ++ .inr (c, fs) :: r) ++ [z]) n c k (.ref (List.length (h ++ .inr (c, fs) :: r))) = some (h ++ .inr (c, fs.set k (.ref m)) :: (r ++ [z])) := by
  have e : (h ++ .inr (c, fs) :: r) ++ [z] = h ++ .inr (c, fs) :: (r ++ [z]) := by rw [List.append_assoc]; rfl
  have l : List.length (h ++ Sum.inr (c, fs) :: r) = m := by rw [List.length_append, hn, List.length_cons]; omega
  rw [e, l, ap_put hn hk]
theorem ap_fld (hn : h.length = n) (hv : fs[k]? = some v) : xm_fld (h ++ .inr (c, fs) :: r) n c k = some v := by
  unfold xm_fld
  rw [ap_get hn]
  show (if c = c then fs[k]? else none) = _
  rw [if_pos rfl, hv]
theorem ap_sto (hn : h.length = n) (hj : j < N) (hN : N < 2147483648) {e : xm_E} : xm_sto (h ++ e :: .inl (t, N, .inl f) :: r) t (n + 1) (Int32.ofNat j) x = some (h ++ e :: .inl (t, N, .inl (upd f j (xm_nar t x))) :: r) := by
  have e1 : h ++ e :: .inl (t, N, .inl f) :: r = (h ++ [e]) ++ .inl (t, N, .inl f) :: r := by rw [List.append_assoc]; rfl
  have hn1 : (h ++ [e]).length = n + 1 := by rw [List.length_append, hn]; rfl
  rw [e1]
  unfold xm_sto
  rw [ap_get hn1]
  show (if t = t ∧ ¬ Int32.ofNat j < 0 ∧ (Int32.ofNat j).toNatClampNeg < N then some (((h ++ [e]) ++ .inl (t, N, .inl f) :: r).set (n + 1) (.inl (t, N, .inl (upd f (Int32.ofNat j).toNatClampNeg (xm_nar t x))))) else none) = _
  rw [xs_tn (by omega), if_pos ⟨rfl, xs_nn (by omega), hj⟩, ap_set hn1, List.append_assoc]
  rfl
theorem ap_stl (hj : j < N) (hN : N < 2147483648) : xm_sto (h ++ [.inl (t, N, .inl f)]) t h.length (Int32.ofNat j) x = some (h ++ [.inl (t, N, .inl (upd f j (xm_nar t x)))]) := by
  unfold xm_sto
  rw [ap_get rfl]
  show (if t = t ∧ ¬ Int32.ofNat j < 0 ∧ (Int32.ofNat j).toNatClampNeg < N then some ((h ++ [Sum.inl (t, N, Sum.inl f)]).set h.length (.inl (t, N, .inl (upd f (Int32.ofNat j).toNatClampNeg (xm_nar t x))))) else none) = _
  rw [xs_tn (by omega), if_pos ⟨rfl, xs_nn (by omega), hj⟩, ap_set rfl]
theorem ap_st {H : xm_H} (hl : H.length ≤ 1000) (hi : i < 11) : xm_ld xm_st H 0 (1000 + 2) (Int32.ofNat i) = some (xm_ls [5, 100, 30, 0, 0, 1, 10, 20, 0, 10, 10] i) := by
  have e : xm_ar xm_st H 0 (1000 + 2) = some (11, xm_ls [5, 100, 30, 0, 0, 1, 10, 20, 0, 10, 10]) := by
    unfold xm_ar; rw [List.getElem?_eq_none (by omega)]; rfl
  unfold xm_ld
  rw [e]
  show (if ¬ Int32.ofNat i < 0 ∧ (Int32.ofNat i).toNatClampNeg < 11 then some (xm_ls _ (Int32.ofNat i).toNatClampNeg) else none) = _
  rw [xs_tn (by omega), if_pos ⟨xs_nn (by omega), hi⟩]
abbrev wO (h : xm_H) (n : Nat) (f : Nat → Int32) : xm_H := h ++ [.inr (7, [.ref (n + 1), .int 0]), .inl (0, 67, .inl f)]
theorem wO_len : (wO h n f).length = h.length + 2 := by rw [List.length_append]; rfl
theorem s7_a (hn : h.length = n) (hl : h.length ≤ 900) (hi : i < 8) (H : xm_At xm_st K sX7_init sX7_init.1.cls kX7_init 11 1 67 [some (.ref n), some (.int (Int32.ofNat (i + 1)))] [] (wO h n (upd f (56 + i) 20)) P) : xm_At xm_st K sX7_init sX7_init.1.cls kX7_init 11 1 67 [some (.ref n), some (.int (Int32.ofNat i))] [] (wO h n f) P := by
  refine xX7_init_11 ?_
  rw [if_pos (show Int32.ofNat i < (8 : Int32) from (n_lt (q := 8) (by omega) (by omega)).mpr hi), show (56 : Int32) + Int32.ofNat i = Int32.ofNat (56 + i) from n_add 56 i, n_succ]
  exact ⟨n + 1, ap_fld hn rfl, 20, ap_st (i := 7) (by rw [wO_len]; omega) (by omega), _, ap_sto hn (by omega) (by omega), H⟩
theorem s7_b (H : xm_At xm_st K sX7_init sX7_init.1.cls kX7_init 27 1 67 [some (.ref n), some (.int (Int32.ofNat 8))] [] h P) : xm_At xm_st K sX7_init sX7_init.1.cls kX7_init 11 1 67 [some (.ref n), some (.int (Int32.ofNat 8))] [] h P := by
  refine xX7_init_11 ?_
  rw [if_neg (show ¬ Int32.ofNat 8 < (8 : Int32) by decide)]
  exact H
theorem n_64 : ∀ i, i < 11 → 8 ≤ i → ((64 : Int32) + Int32.ofNat i) - 8 = Int32.ofNat (56 + i) := by decide +kernel
theorem s7_c (hn : h.length = n) (hl : h.length ≤ 900) (hi : i < 11) (h8 : 8 ≤ i) (H : xm_At xm_st K sX7_init sX7_init.1.cls kX7_init 27 1 67 [some (.ref n), some (.int (Int32.ofNat (i + 1)))] [] (wO h n (upd f (56 + i) (xm_ls [5, 100, 30, 0, 0, 1, 10, 20, 0, 10, 10] i))) P) : xm_At xm_st K sX7_init sX7_init.1.cls kX7_init 27 1 67 [some (.ref n), some (.int (Int32.ofNat i))] [] (wO h n f) P := by
  refine xX7_init_27 ?_
  rw [if_neg (show ¬ (10 : Int32) < Int32.ofNat i from n_ge (p := 10) (by omega) (by omega) (by omega)), n_64 i hi h8, n_succ]
  exact ⟨n + 1, ap_fld hn rfl, _, ap_st (by rw [wO_len]; omega) hi, _, ap_sto hn (by omega) (by omega), H⟩
theorem s7_d (H : P none h) : xm_At xm_st K sX7_init sX7_init.1.cls kX7_init 27 1 67 [some (.ref n), some (.int (Int32.ofNat 11))] [] h P := by
  refine xX7_init_27 ?_
  rw [if_pos (show (10 : Int32) < Int32.ofNat 11 by decide)]
  exact H
def w0 : Nat → Int32 := (upd (upd (upd (upd (upd (upd (upd (upd (upd (upd (upd (fun _ => 0) 56 20) 57 20) 58 20) 59 20) 60 20) 61 20) 62 20) 63 20) 64 0) 65 10) 66 10)
theorem c_init7 (hK : 0 < K) (hn : h.length = n) (hl : h.length ≤ 900) (va : xm_va (h ++ [.inr (7, xm_df 7)]) [some (.ref n), none] [.ref n] 1) (H : gv (h ++ [.inr (7, [.ref (n + 1), .int 0]), .inl (0, 67, .inl w0)])) : xm_Call K sX7_init 7 [.ref n] (h ++ [.inr (7, xm_df 7)]) (xm_pv gv) := by
  refine eX7_init (K := 0) hK ⟨_, ap_get hn⟩ ⟨by decide, va, _, ap_new (m := n + 1) hn (by decide +kernel) rfl, _, ap_put hn (by rw [List.length_set]; decide +kernel), ?_⟩
  have key : xm_At xm_st 0 sX7_init sX7_init.1.cls kX7_init 11 1 67 [some (.ref n), some (.int (Int32.ofNat 0))] [] (wO h n (fun _ => 0)) (xm_pv gv) := by
    refine s7_a hn hl (by omega) (s7_a hn hl (by omega) (s7_a hn hl (by omega) (s7_a hn hl (by omega) (s7_a hn hl (by omega) (s7_a hn hl (by omega) (s7_a hn hl (by omega) (s7_a hn hl (by omega) (s7_b (s7_c hn hl (by omega) (by omega) (s7_c hn hl (by omega) (by omega) (s7_c hn hl (by omega) (by omega) (s7_d (xm_pv_i ?_)))))))))))))
    exact H
  exact key
theorem c_init5 (hK : 0 < K) (hn : h.length = n) (va : xm_va (h ++ [.inr (5, [.int (-1), .int (-1), .int 0, .null])]) [some (.ref n)] [.ref n] 1) (H : gv (h ++ [.inr (5, [.int (-1), .int (-1), .int 0, .ref (n + 1)]), .inl (3, 60, .inr (.inl (fun _ => 0)))])) : xm_Call K sX5_init 5 [.ref n] (h ++ [.inr (5, xm_df 5)]) (xm_pv gv) := by
  refine eX5_init (K := 0) hK ⟨_, ap_get hn⟩ ⟨_, ap_put hn (by decide +kernel), _, ap_put hn (by decide +kernel), _, ap_put hn (by decide +kernel), by decide, va, _, ap_new (m := n + 1) hn (by decide +kernel) rfl, xm_pv_i ?_⟩
  exact H
def rk0 : List xm_E := []
def rk1 : List xm_E := rk0 ++ [.inr (7, [.ref 2, .int 0]), .inl (0, 67, .inl w0)]
def rk2 : List xm_E := rk1 ++ [.inr (7, [.ref 4, .int 0]), .inl (0, 67, .inl w0)]
theorem c_init6 (hK : 0 < K) (H : gv (((.inr (8, [.ref 1, .ref 3, .null, .null, .null, .null, .null, .null, .int 0, .null, .null, .null, .null]) :: rk2) ++ [.inr (4, xm_df 4)]) ++ [.inr (6, [.ref 7, .int 0, .ref 8]), .inl (0, 128, .inl (fun _ => 0)), .inl (0, 128, .inl (fun _ => 0))])) : xm_Call K sX6_init 6 [.ref 6] (((.inr (8, [.ref 1, .ref 3, .null, .null, .null, .null, .null, .null, .int 0, .null, .null, .null, .null]) :: rk2) ++ [.inr (4, xm_df 4)]) ++ [.inr (6, xm_df 6)]) (xm_pv gv) := by
  refine eX6_init (K := 0) hK ⟨_, ap_get rfl⟩ ⟨by decide, ⟨by decide +kernel, by decide +kernel, by decide +kernel, by decide +kernel⟩, _, ap_new (m := 7) rfl (by decide +kernel) rfl, _, ap_put rfl (by decide +kernel), by decide, ⟨by decide +kernel, by decide +kernel, by decide +kernel, by decide +kernel⟩, _, ap_new (m := 8) rfl (by decide +kernel) rfl, xm_pv_i ?_⟩
  exact H
theorem c_init4 (hK : 1 < K) (H : gv ((.inr (8, [.ref 1, .ref 3, .null, .null, .null, .null, .null, .null, .int 0, .null, .null, .null, .null]) :: rk2) ++ [.inr (4, [.ref 6, .ref 9, .ref 10, .ref 11, .ref 12, .int 0, .int 0, .int 0, .int 0, .int 0, .int 0]), .inr (6, [.ref 7, .int 0, .ref 8]), .inl (0, 128, .inl (fun _ => 0)), .inl (0, 128, .inl (fun _ => 0)), .inl (0, 6, .inl (fun _ => 0)), .inl (0, 8, .inl (fun _ => 0)), .inl (0, 8, .inl (fun _ => 0)), .inl (0, 8, .inl (fun _ => 0))])) : xm_Call K sX4_init 4 [.ref 5] ((.inr (8, [.ref 1, .ref 3, .null, .null, .null, .null, .null, .null, .int 0, .null, .null, .null, .null]) :: rk2) ++ [.inr (4, xm_df 4)]) (xm_pv gv) := by
  refine eX4_init (K := 1) hK ⟨_, ap_get rfl⟩ ⟨by decide, ⟨by decide +kernel, by decide +kernel, by decide +kernel, by decide +kernel⟩, by decide, ⟨by decide +kernel, by decide +kernel, by decide +kernel, by decide +kernel⟩, c_init6 (by omega) ?_⟩
  refine ⟨(.inr (8, [.ref 1, .ref 3, .null, .null, .null, .null, .null, .null, .int 0, .null, .null, .null, .null]) :: rk2) ++ .inr (4, [.ref 6, .null, .null, .null, .null, .int 0, .int 0, .int 0, .int 0, .int 0, .int 0]) :: [.inr (6, [.ref 7, .int 0, .ref 8]), .inl (0, 128, .inl (fun _ => 0)), .inl (0, 128, .inl (fun _ => 0))], rfl, by decide, ⟨by decide +kernel, by decide +kernel, by decide +kernel, by decide +kernel⟩, _, ap_new (m := 9) rfl (by decide +kernel) rfl, by decide, ⟨by decide +kernel, by decide +kernel, by decide +kernel, by decide +kernel⟩, _, ap_new (m := 10) rfl (by decide +kernel) rfl, by decide, ⟨by decide +kernel, by decide +kernel, by decide +kernel, by decide +kernel⟩, _, ap_new (m := 11) rfl (by decide +kernel) rfl, by decide, ⟨by decide +kernel, by decide +kernel, by decide +kernel, by decide +kernel⟩, _, ap_new (m := 12) rfl (by decide +kernel) rfl, _, ap_put rfl (by decide +kernel), _, ap_put rfl (by decide +kernel), _, ap_put rfl (by decide +kernel), _, ap_put rfl (by decide +kernel), _, ap_put rfl (by decide +kernel), _, ap_put rfl (by decide +kernel), xm_pv_i ?_⟩
  exact H
def rk3 : List xm_E := rk2 ++ [.inr (4, [.ref 6, .ref 9, .ref 10, .ref 11, .ref 12, .int 0, .int 0, .int 0, .int 0, .int 0, .int 0]), .inr (6, [.ref 7, .int 0, .ref 8]), .inl (0, 128, .inl (fun _ => 0)), .inl (0, 128, .inl (fun _ => 0)), .inl (0, 6, .inl (fun _ => 0)), .inl (0, 8, .inl (fun _ => 0)), .inl (0, 8, .inl (fun _ => 0)), .inl (0, 8, .inl (fun _ => 0))]
theorem c_init3 (hK : 0 < K) (H : gv ((.inr (8, [.ref 1, .ref 3, .ref 5, .null, .null, .null, .null, .null, .int 0, .null, .null, .null, .null]) :: rk3) ++ [.inr (3, [.ref 14, .int 0, .int 0, .ref 15, .int 0]), .inl (0, 120, .inl (fun _ => 0)), .inl (0, 128, .inl (fun _ => 0))])) : xm_Call K sX3_init 3 [.ref 13] ((.inr (8, [.ref 1, .ref 3, .ref 5, .null, .null, .null, .null, .null, .int 0, .null, .null, .null, .null]) :: rk3) ++ [.inr (3, xm_df 3)]) (xm_pv gv) := by
  refine eX3_init (K := 0) hK ⟨_, ap_get rfl⟩ ⟨by decide, ⟨by decide +kernel, by decide +kernel, by decide +kernel, by decide +kernel⟩, _, ap_new (m := 14) rfl (by decide +kernel) rfl, _, ap_put rfl (by decide +kernel), _, ap_put rfl (by decide +kernel), by decide, ⟨by decide +kernel, by decide +kernel, by decide +kernel, by decide +kernel⟩, _, ap_new (m := 15) rfl (by decide +kernel) rfl, _, ap_put rfl (by decide +kernel), xm_pv_i ?_⟩
  exact H
def rk4 : List xm_E := rk3 ++ [.inr (3, [.ref 14, .int 0, .int 0, .ref 15, .int 0]), .inl (0, 120, .inl (fun _ => 0)), .inl (0, 128, .inl (fun _ => 0))]
theorem c_init2 (hK : 0 < K) (H : gv ((.inr (8, [.ref 1, .ref 3, .ref 5, .ref 13, .null, .null, .null, .null, .int 0, .null, .null, .null, .null]) :: rk4) ++ [.inr (2, [.ref 17, .ref 18, .ref 19, .int 0, .int 0]), .inl (0, 40, .inl (fun _ => 0)), .inl (0, 40, .inl (fun _ => 0)), .inl (0, 40, .inl (fun _ => 0))])) : xm_Call K sX2_init 2 [.ref 16] ((.inr (8, [.ref 1, .ref 3, .ref 5, .ref 13, .null, .null, .null, .null, .int 0, .null, .null, .null, .null]) :: rk4) ++ [.inr (2, xm_df 2)]) (xm_pv gv) := by
  refine eX2_init (K := 0) hK ⟨_, ap_get rfl⟩ ⟨by decide, ⟨by decide +kernel, by decide +kernel, by decide +kernel, by decide +kernel⟩, _, ap_new (m := 17) rfl (by decide +kernel) rfl, by decide, ⟨by decide +kernel, by decide +kernel, by decide +kernel, by decide +kernel⟩, _, ap_new (m := 18) rfl (by decide +kernel) rfl, by decide, ⟨by decide +kernel, by decide +kernel, by decide +kernel, by decide +kernel⟩, _, ap_new (m := 19) rfl (by decide +kernel) rfl, _, ap_put rfl (by decide +kernel), _, ap_put rfl (by decide +kernel), xm_pv_i ?_⟩
  exact H
def rk5 : List xm_E := rk4 ++ [.inr (2, [.ref 17, .ref 18, .ref 19, .int 0, .int 0]), .inl (0, 40, .inl (fun _ => 0)), .inl (0, 40, .inl (fun _ => 0)), .inl (0, 40, .inl (fun _ => 0))]
def rk6 : List xm_E := rk5 ++ [.inl (0, 6, .inl (fun _ => 0))]
def rk7 : List xm_E := rk6 ++ [.inr (7, [.ref 22, .int 0]), .inl (0, 67, .inl w0)]
def rk8 : List xm_E := rk7 ++ [.inl (0, 6, .inl (fun _ => 0))]
def rk9 : List xm_E := rk8 ++ [.inl (0, 1024, .inl (fun _ => 0))]
theorem c_init0 (hK : 0 < K) (H : gv ((.inr (8, [.ref 1, .ref 3, .ref 5, .ref 13, .ref 16, .ref 20, .ref 21, .ref 23, .int 0, .ref 24, .null, .null, .null]) :: rk9) ++ [.inr (0, [.ref 26, .ref 27, .int 0]), .inl (0, 20, .inl (fun _ => 0)), .inl (0, 20, .inl (fun _ => 0))])) : xm_Call K sX0_init 0 [.ref 25] ((.inr (8, [.ref 1, .ref 3, .ref 5, .ref 13, .ref 16, .ref 20, .ref 21, .ref 23, .int 0, .ref 24, .null, .null, .null]) :: rk9) ++ [.inr (0, xm_df 0)]) (xm_pv gv) := by
  refine eX0_init (K := 0) hK ⟨_, ap_get rfl⟩ ⟨by decide, ⟨by decide +kernel, by decide +kernel, by decide +kernel, by decide +kernel⟩, _, ap_new (m := 26) rfl (by decide +kernel) rfl, by decide, ⟨by decide +kernel, by decide +kernel, by decide +kernel, by decide +kernel⟩, _, ap_new (m := 27) rfl (by decide +kernel) rfl, _, ap_put rfl (by decide +kernel), xm_pv_i ?_⟩
  exact H
def rk10 : List xm_E := rk9 ++ [.inr (0, [.ref 26, .ref 27, .int 0]), .inl (0, 20, .inl (fun _ => 0)), .inl (0, 20, .inl (fun _ => 0))]
theorem c_init1 (hK : 0 < K) (H : gv ((.inr (8, [.ref 1, .ref 3, .ref 5, .ref 13, .ref 16, .ref 20, .ref 21, .ref 23, .int 0, .ref 24, .ref 25, .null, .null]) :: rk10) ++ [.inr (1, [.ref 29, .int 0, .ref 30, .int 0, .int 0]), .inl (0, 50, .inl (fun _ => 0)), .inl (0, 24, .inl (fun _ => 0))])) : xm_Call K sX1_init 1 [.ref 28] ((.inr (8, [.ref 1, .ref 3, .ref 5, .ref 13, .ref 16, .ref 20, .ref 21, .ref 23, .int 0, .ref 24, .ref 25, .null, .null]) :: rk10) ++ [.inr (1, xm_df 1)]) (xm_pv gv) := by
  refine eX1_init (K := 0) hK ⟨_, ap_get rfl⟩ ⟨by decide, ⟨by decide +kernel, by decide +kernel, by decide +kernel, by decide +kernel⟩, _, ap_new (m := 29) rfl (by decide +kernel) rfl, _, ap_put rfl (by decide +kernel), by decide, ⟨by decide +kernel, by decide +kernel, by decide +kernel, by decide +kernel⟩, _, ap_new (m := 30) rfl (by decide +kernel) rfl, _, ap_put rfl (by decide +kernel), _, ap_put rfl (by decide +kernel), xm_pv_i ?_⟩
  exact H
def rk11 : List xm_E := rk10 ++ [.inr (1, [.ref 29, .int 0, .ref 30, .int 0, .int 0]), .inl (0, 50, .inl (fun _ => 0)), .inl (0, 24, .inl (fun _ => 0))]
def hq44 : xm_H := .inr (8, [.ref 1, .ref 3, .ref 5, .ref 13, .ref 16, .ref 20, .ref 21, .ref 23, .int 0, .ref 24, .ref 25, .ref 28, .ref 31]) :: (rk11 ++ .inl (4, 6, .inr (.inr (.inr (.inr (va_up (va_up (va_up (va_up (va_up (va_up (fun _ => none) 0 (some 32)) 1 (some 34)) 2 (some 36)) 3 (some 38)) 4 (some 40)) 5 (some 42)))))) :: [.inr (5, [.int (-1), .int (-1), .int 0, .ref 33]), .inl (3, 60, .inr (.inl (fun _ => 0))), .inr (5, [.int (-1), .int (-1), .int 0, .ref 35]), .inl (3, 60, .inr (.inl (fun _ => 0))), .inr (5, [.int (-1), .int (-1), .int 0, .ref 37]), .inl (3, 60, .inr (.inl (fun _ => 0))), .inr (5, [.int (-1), .int (-1), .int 0, .ref 39]), .inl (3, 60, .inr (.inl (fun _ => 0))), .inr (5, [.int (-1), .int (-1), .int 0, .ref 41]), .inl (3, 60, .inr (.inl (fun _ => 0))), .inr (5, [.int (-1), .int (-1), .int 0, .ref 43]), .inl (3, 60, .inr (.inl (fun _ => 0)))])
set_option maxRecDepth 100000 in
set_option maxHeartbeats 4000000 in
theorem c_init8 (hK : 5 < K) (H : gv hq44) : xm_Call K sX8_init 8 [.ref 0] [.inr (8, xm_df 8)] (xm_pv gv) := by
  refine eX8_init (K := 5) hK ⟨_, rfl⟩ ⟨by decide, ⟨by decide +kernel, by decide +kernel, by decide +kernel, by decide +kernel⟩, by decide, ⟨by decide +kernel, by decide +kernel, by decide +kernel, by decide +kernel⟩, ?_⟩
  refine c_init7 (h := (.inr (8, [.null, .null, .null, .null, .null, .null, .null, .null, .int 0, .null, .null, .null, .null]) :: rk0)) (n := 1) (by omega) rfl (by decide +kernel) ⟨by decide +kernel, by decide +kernel, by decide +kernel, by decide +kernel⟩ ?_
  refine ⟨(.inr (8, [.ref 1, .null, .null, .null, .null, .null, .null, .null, .int 0, .null, .null, .null, .null]) :: rk1), rfl, ?_⟩
  refine ⟨by decide, ⟨by decide +kernel, by decide +kernel, by decide +kernel, by decide +kernel⟩, by decide, ⟨by decide +kernel, by decide +kernel, by decide +kernel, by decide +kernel⟩, ?_⟩
  refine c_init7 (h := (.inr (8, [.ref 1, .null, .null, .null, .null, .null, .null, .null, .int 0, .null, .null, .null, .null]) :: rk1)) (n := 3) (by omega) rfl (by decide +kernel) ⟨by decide +kernel, by decide +kernel, by decide +kernel, by decide +kernel⟩ ?_
  refine ⟨(.inr (8, [.ref 1, .ref 3, .null, .null, .null, .null, .null, .null, .int 0, .null, .null, .null, .null]) :: rk2), rfl, ?_⟩
  refine ⟨by decide, ⟨by decide +kernel, by decide +kernel, by decide +kernel, by decide +kernel⟩, by decide, ⟨by decide +kernel, by decide +kernel, by decide +kernel, by decide +kernel⟩, ?_⟩
  refine c_init4 (by omega) ?_
  refine ⟨(.inr (8, [.ref 1, .ref 3, .ref 5, .null, .null, .null, .null, .null, .int 0, .null, .null, .null, .null]) :: rk3), rfl, ?_⟩
  refine ⟨by decide, ⟨by decide +kernel, by decide +kernel, by decide +kernel, by decide +kernel⟩, by decide, ⟨by decide +kernel, by decide +kernel, by decide +kernel, by decide +kernel⟩, ?_⟩
  refine c_init3 (by omega) ?_
  refine ⟨(.inr (8, [.ref 1, .ref 3, .ref 5, .ref 13, .null, .null, .null, .null, .int 0, .null, .null, .null, .null]) :: rk4), rfl, ?_⟩
  refine ⟨by decide, ⟨by decide +kernel, by decide +kernel, by decide +kernel, by decide +kernel⟩, by decide, ⟨by decide +kernel, by decide +kernel, by decide +kernel, by decide +kernel⟩, ?_⟩
  refine c_init2 (by omega) ?_
  refine ⟨(.inr (8, [.ref 1, .ref 3, .ref 5, .ref 13, .ref 16, .null, .null, .null, .int 0, .null, .null, .null, .null]) :: rk5), rfl, ?_⟩
  refine ⟨by decide, ⟨by decide +kernel, by decide +kernel, by decide +kernel, by decide +kernel⟩, ?_⟩
  refine ⟨(.inr (8, [.ref 1, .ref 3, .ref 5, .ref 13, .ref 16, .ref 20, .null, .null, .int 0, .null, .null, .null, .null]) :: rk6), rfl, ?_⟩
  refine ⟨by decide, ⟨by decide +kernel, by decide +kernel, by decide +kernel, by decide +kernel⟩, by decide, ⟨by decide +kernel, by decide +kernel, by decide +kernel, by decide +kernel⟩, ?_⟩
  refine c_init7 (h := (.inr (8, [.ref 1, .ref 3, .ref 5, .ref 13, .ref 16, .ref 20, .null, .null, .int 0, .null, .null, .null, .null]) :: rk6)) (n := 21) (by omega) rfl (by decide +kernel) ⟨by decide +kernel, by decide +kernel, by decide +kernel, by decide +kernel⟩ ?_
  refine ⟨(.inr (8, [.ref 1, .ref 3, .ref 5, .ref 13, .ref 16, .ref 20, .ref 21, .null, .int 0, .null, .null, .null, .null]) :: rk7), rfl, ?_⟩
  refine ⟨by decide, ⟨by decide +kernel, by decide +kernel, by decide +kernel, by decide +kernel⟩, ?_⟩
  refine ⟨(.inr (8, [.ref 1, .ref 3, .ref 5, .ref 13, .ref 16, .ref 20, .ref 21, .ref 23, .int 0, .null, .null, .null, .null]) :: rk8), rfl, ?_⟩
  refine ⟨(.inr (8, [.ref 1, .ref 3, .ref 5, .ref 13, .ref 16, .ref 20, .ref 21, .ref 23, .int 0, .null, .null, .null, .null]) :: rk8), rfl, ?_⟩
  refine ⟨by decide, ⟨by decide +kernel, by decide +kernel, by decide +kernel, by decide +kernel⟩, ?_⟩
  refine ⟨(.inr (8, [.ref 1, .ref 3, .ref 5, .ref 13, .ref 16, .ref 20, .ref 21, .ref 23, .int 0, .ref 24, .null, .null, .null]) :: rk9), rfl, ?_⟩
  refine ⟨by decide, ⟨by decide +kernel, by decide +kernel, by decide +kernel, by decide +kernel⟩, by decide, ⟨by decide +kernel, by decide +kernel, by decide +kernel, by decide +kernel⟩, ?_⟩
  refine c_init0 (by omega) ?_
  refine ⟨(.inr (8, [.ref 1, .ref 3, .ref 5, .ref 13, .ref 16, .ref 20, .ref 21, .ref 23, .int 0, .ref 24, .ref 25, .null, .null]) :: rk10), rfl, ?_⟩
  refine ⟨by decide, ⟨by decide +kernel, by decide +kernel, by decide +kernel, by decide +kernel⟩, by decide, ⟨by decide +kernel, by decide +kernel, by decide +kernel, by decide +kernel⟩, ?_⟩
  refine c_init1 (by omega) ?_
  refine ⟨(.inr (8, [.ref 1, .ref 3, .ref 5, .ref 13, .ref 16, .ref 20, .ref 21, .ref 23, .int 0, .ref 24, .ref 25, .ref 28, .null]) :: rk11), rfl, ?_⟩
  refine ⟨by decide, ⟨by decide +kernel, by decide +kernel, by decide +kernel, by decide +kernel⟩, ?_⟩
  refine ⟨(.inr (8, [.ref 1, .ref 3, .ref 5, .ref 13, .ref 16, .ref 20, .ref 21, .ref 23, .int 0, .ref 24, .ref 25, .ref 28, .ref 31]) :: (rk11 ++ .inl (4, 6, .inr (.inr (.inr (.inr (fun _ => none))))) :: [])), rfl, ?_⟩
  refine xX8_init_63 ?_
  rw [if_pos (show (0 : Int32) < 6 by decide)]
  refine ⟨31, rfl, by decide, ⟨by decide +kernel, by decide +kernel, by decide +kernel, by decide +kernel⟩, by decide, ⟨by decide +kernel, by decide +kernel, by decide +kernel, by decide +kernel⟩, ?_⟩
  refine c_init5 (K := 5) (h := (.inr (8, [.ref 1, .ref 3, .ref 5, .ref 13, .ref 16, .ref 20, .ref 21, .ref 23, .int 0, .ref 24, .ref 25, .ref 28, .ref 31]) :: (rk11 ++ .inl (4, 6, .inr (.inr (.inr (.inr (fun _ => none))))) :: []))) (n := 32) (by omega) rfl ⟨by decide +kernel, by decide +kernel, by decide +kernel, by decide +kernel⟩ ?_
  refine ⟨(.inr (8, [.ref 1, .ref 3, .ref 5, .ref 13, .ref 16, .ref 20, .ref 21, .ref 23, .int 0, .ref 24, .ref 25, .ref 28, .ref 31]) :: (rk11 ++ .inl (4, 6, .inr (.inr (.inr (.inr (va_up (fun _ => none) 0 (some 32)))))) :: [.inr (5, [.int (-1), .int (-1), .int 0, .ref 33]), .inl (3, 60, .inr (.inl (fun _ => 0)))])), rfl, ?_⟩
  rw [show (0 : Int32) + 1 = 1 by decide]
  refine xX8_init_63 ?_
  rw [if_pos (show (1 : Int32) < 6 by decide)]
  refine ⟨31, rfl, by decide, ⟨by decide +kernel, by decide +kernel, by decide +kernel, by decide +kernel⟩, by decide, ⟨by decide +kernel, by decide +kernel, by decide +kernel, by decide +kernel⟩, ?_⟩
  refine c_init5 (K := 5) (h := (.inr (8, [.ref 1, .ref 3, .ref 5, .ref 13, .ref 16, .ref 20, .ref 21, .ref 23, .int 0, .ref 24, .ref 25, .ref 28, .ref 31]) :: (rk11 ++ .inl (4, 6, .inr (.inr (.inr (.inr (va_up (fun _ => none) 0 (some 32)))))) :: [.inr (5, [.int (-1), .int (-1), .int 0, .ref 33]), .inl (3, 60, .inr (.inl (fun _ => 0)))]))) (n := 34) (by omega) rfl ⟨by decide +kernel, by decide +kernel, by decide +kernel, by decide +kernel⟩ ?_
  refine ⟨(.inr (8, [.ref 1, .ref 3, .ref 5, .ref 13, .ref 16, .ref 20, .ref 21, .ref 23, .int 0, .ref 24, .ref 25, .ref 28, .ref 31]) :: (rk11 ++ .inl (4, 6, .inr (.inr (.inr (.inr (va_up (va_up (fun _ => none) 0 (some 32)) 1 (some 34)))))) :: [.inr (5, [.int (-1), .int (-1), .int 0, .ref 33]), .inl (3, 60, .inr (.inl (fun _ => 0))), .inr (5, [.int (-1), .int (-1), .int 0, .ref 35]), .inl (3, 60, .inr (.inl (fun _ => 0)))])), rfl, ?_⟩
  rw [show (1 : Int32) + 1 = 2 by decide]
  refine xX8_init_63 ?_
  rw [if_pos (show (2 : Int32) < 6 by decide)]
  refine ⟨31, rfl, by decide, ⟨by decide +kernel, by decide +kernel, by decide +kernel, by decide +kernel⟩, by decide, ⟨by decide +kernel, by decide +kernel, by decide +kernel, by decide +kernel⟩, ?_⟩
  refine c_init5 (K := 5) (h := (.inr (8, [.ref 1, .ref 3, .ref 5, .ref 13, .ref 16, .ref 20, .ref 21, .ref 23, .int 0, .ref 24, .ref 25, .ref 28, .ref 31]) :: (rk11 ++ .inl (4, 6, .inr (.inr (.inr (.inr (va_up (va_up (fun _ => none) 0 (some 32)) 1 (some 34)))))) :: [.inr (5, [.int (-1), .int (-1), .int 0, .ref 33]), .inl (3, 60, .inr (.inl (fun _ => 0))), .inr (5, [.int (-1), .int (-1), .int 0, .ref 35]), .inl (3, 60, .inr (.inl (fun _ => 0)))]))) (n := 36) (by omega) rfl ⟨by decide +kernel, by decide +kernel, by decide +kernel, by decide +kernel⟩ ?_
  refine ⟨(.inr (8, [.ref 1, .ref 3, .ref 5, .ref 13, .ref 16, .ref 20, .ref 21, .ref 23, .int 0, .ref 24, .ref 25, .ref 28, .ref 31]) :: (rk11 ++ .inl (4, 6, .inr (.inr (.inr (.inr (va_up (va_up (va_up (fun _ => none) 0 (some 32)) 1 (some 34)) 2 (some 36)))))) :: [.inr (5, [.int (-1), .int (-1), .int 0, .ref 33]), .inl (3, 60, .inr (.inl (fun _ => 0))), .inr (5, [.int (-1), .int (-1), .int 0, .ref 35]), .inl (3, 60, .inr (.inl (fun _ => 0))), .inr (5, [.int (-1), .int (-1), .int 0, .ref 37]), .inl (3, 60, .inr (.inl (fun _ => 0)))])), rfl, ?_⟩
  rw [show (2 : Int32) + 1 = 3 by decide]
  refine xX8_init_63 ?_
  rw [if_pos (show (3 : Int32) < 6 by decide)]
  refine ⟨31, rfl, by decide, ⟨by decide +kernel, by decide +kernel, by decide +kernel, by decide +kernel⟩, by decide, ⟨by decide +kernel, by decide +kernel, by decide +kernel, by decide +kernel⟩, ?_⟩
  refine c_init5 (K := 5) (h := (.inr (8, [.ref 1, .ref 3, .ref 5, .ref 13, .ref 16, .ref 20, .ref 21, .ref 23, .int 0, .ref 24, .ref 25, .ref 28, .ref 31]) :: (rk11 ++ .inl (4, 6, .inr (.inr (.inr (.inr (va_up (va_up (va_up (fun _ => none) 0 (some 32)) 1 (some 34)) 2 (some 36)))))) :: [.inr (5, [.int (-1), .int (-1), .int 0, .ref 33]), .inl (3, 60, .inr (.inl (fun _ => 0))), .inr (5, [.int (-1), .int (-1), .int 0, .ref 35]), .inl (3, 60, .inr (.inl (fun _ => 0))), .inr (5, [.int (-1), .int (-1), .int 0, .ref 37]), .inl (3, 60, .inr (.inl (fun _ => 0)))]))) (n := 38) (by omega) rfl ⟨by decide +kernel, by decide +kernel, by decide +kernel, by decide +kernel⟩ ?_
  refine ⟨(.inr (8, [.ref 1, .ref 3, .ref 5, .ref 13, .ref 16, .ref 20, .ref 21, .ref 23, .int 0, .ref 24, .ref 25, .ref 28, .ref 31]) :: (rk11 ++ .inl (4, 6, .inr (.inr (.inr (.inr (va_up (va_up (va_up (va_up (fun _ => none) 0 (some 32)) 1 (some 34)) 2 (some 36)) 3 (some 38)))))) :: [.inr (5, [.int (-1), .int (-1), .int 0, .ref 33]), .inl (3, 60, .inr (.inl (fun _ => 0))), .inr (5, [.int (-1), .int (-1), .int 0, .ref 35]), .inl (3, 60, .inr (.inl (fun _ => 0))), .inr (5, [.int (-1), .int (-1), .int 0, .ref 37]), .inl (3, 60, .inr (.inl (fun _ => 0))), .inr (5, [.int (-1), .int (-1), .int 0, .ref 39]), .inl (3, 60, .inr (.inl (fun _ => 0)))])), rfl, ?_⟩
  rw [show (3 : Int32) + 1 = 4 by decide]
  refine xX8_init_63 ?_
  rw [if_pos (show (4 : Int32) < 6 by decide)]
  refine ⟨31, rfl, by decide, ⟨by decide +kernel, by decide +kernel, by decide +kernel, by decide +kernel⟩, by decide, ⟨by decide +kernel, by decide +kernel, by decide +kernel, by decide +kernel⟩, ?_⟩
  refine c_init5 (K := 5) (h := (.inr (8, [.ref 1, .ref 3, .ref 5, .ref 13, .ref 16, .ref 20, .ref 21, .ref 23, .int 0, .ref 24, .ref 25, .ref 28, .ref 31]) :: (rk11 ++ .inl (4, 6, .inr (.inr (.inr (.inr (va_up (va_up (va_up (va_up (fun _ => none) 0 (some 32)) 1 (some 34)) 2 (some 36)) 3 (some 38)))))) :: [.inr (5, [.int (-1), .int (-1), .int 0, .ref 33]), .inl (3, 60, .inr (.inl (fun _ => 0))), .inr (5, [.int (-1), .int (-1), .int 0, .ref 35]), .inl (3, 60, .inr (.inl (fun _ => 0))), .inr (5, [.int (-1), .int (-1), .int 0, .ref 37]), .inl (3, 60, .inr (.inl (fun _ => 0))), .inr (5, [.int (-1), .int (-1), .int 0, .ref 39]), .inl (3, 60, .inr (.inl (fun _ => 0)))]))) (n := 40) (by omega) rfl ⟨by decide +kernel, by decide +kernel, by decide +kernel, by decide +kernel⟩ ?_
  refine ⟨(.inr (8, [.ref 1, .ref 3, .ref 5, .ref 13, .ref 16, .ref 20, .ref 21, .ref 23, .int 0, .ref 24, .ref 25, .ref 28, .ref 31]) :: (rk11 ++ .inl (4, 6, .inr (.inr (.inr (.inr (va_up (va_up (va_up (va_up (va_up (fun _ => none) 0 (some 32)) 1 (some 34)) 2 (some 36)) 3 (some 38)) 4 (some 40)))))) :: [.inr (5, [.int (-1), .int (-1), .int 0, .ref 33]), .inl (3, 60, .inr (.inl (fun _ => 0))), .inr (5, [.int (-1), .int (-1), .int 0, .ref 35]), .inl (3, 60, .inr (.inl (fun _ => 0))), .inr (5, [.int (-1), .int (-1), .int 0, .ref 37]), .inl (3, 60, .inr (.inl (fun _ => 0))), .inr (5, [.int (-1), .int (-1), .int 0, .ref 39]), .inl (3, 60, .inr (.inl (fun _ => 0))), .inr (5, [.int (-1), .int (-1), .int 0, .ref 41]), .inl (3, 60, .inr (.inl (fun _ => 0)))])), rfl, ?_⟩
  rw [show (4 : Int32) + 1 = 5 by decide]
  refine xX8_init_63 ?_
  rw [if_pos (show (5 : Int32) < 6 by decide)]
  refine ⟨31, rfl, by decide, ⟨by decide +kernel, by decide +kernel, by decide +kernel, by decide +kernel⟩, by decide, ⟨by decide +kernel, by decide +kernel, by decide +kernel, by decide +kernel⟩, ?_⟩
  refine c_init5 (K := 5) (h := (.inr (8, [.ref 1, .ref 3, .ref 5, .ref 13, .ref 16, .ref 20, .ref 21, .ref 23, .int 0, .ref 24, .ref 25, .ref 28, .ref 31]) :: (rk11 ++ .inl (4, 6, .inr (.inr (.inr (.inr (va_up (va_up (va_up (va_up (va_up (fun _ => none) 0 (some 32)) 1 (some 34)) 2 (some 36)) 3 (some 38)) 4 (some 40)))))) :: [.inr (5, [.int (-1), .int (-1), .int 0, .ref 33]), .inl (3, 60, .inr (.inl (fun _ => 0))), .inr (5, [.int (-1), .int (-1), .int 0, .ref 35]), .inl (3, 60, .inr (.inl (fun _ => 0))), .inr (5, [.int (-1), .int (-1), .int 0, .ref 37]), .inl (3, 60, .inr (.inl (fun _ => 0))), .inr (5, [.int (-1), .int (-1), .int 0, .ref 39]), .inl (3, 60, .inr (.inl (fun _ => 0))), .inr (5, [.int (-1), .int (-1), .int 0, .ref 41]), .inl (3, 60, .inr (.inl (fun _ => 0)))]))) (n := 42) (by omega) rfl ⟨by decide +kernel, by decide +kernel, by decide +kernel, by decide +kernel⟩ ?_
  refine ⟨(.inr (8, [.ref 1, .ref 3, .ref 5, .ref 13, .ref 16, .ref 20, .ref 21, .ref 23, .int 0, .ref 24, .ref 25, .ref 28, .ref 31]) :: (rk11 ++ .inl (4, 6, .inr (.inr (.inr (.inr (va_up (va_up (va_up (va_up (va_up (va_up (fun _ => none) 0 (some 32)) 1 (some 34)) 2 (some 36)) 3 (some 38)) 4 (some 40)) 5 (some 42)))))) :: [.inr (5, [.int (-1), .int (-1), .int 0, .ref 33]), .inl (3, 60, .inr (.inl (fun _ => 0))), .inr (5, [.int (-1), .int (-1), .int 0, .ref 35]), .inl (3, 60, .inr (.inl (fun _ => 0))), .inr (5, [.int (-1), .int (-1), .int 0, .ref 37]), .inl (3, 60, .inr (.inl (fun _ => 0))), .inr (5, [.int (-1), .int (-1), .int 0, .ref 39]), .inl (3, 60, .inr (.inl (fun _ => 0))), .inr (5, [.int (-1), .int (-1), .int 0, .ref 41]), .inl (3, 60, .inr (.inl (fun _ => 0))), .inr (5, [.int (-1), .int (-1), .int 0, .ref 43]), .inl (3, 60, .inr (.inl (fun _ => 0)))])), rfl, ?_⟩
  rw [show (5 : Int32) + 1 = 6 by decide]
  refine xX8_init_63 ?_
  rw [if_neg (show ¬ (6 : Int32) < 6 by decide)]
  exact xm_pv_i H
end NEW
