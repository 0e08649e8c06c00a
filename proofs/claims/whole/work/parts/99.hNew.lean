section NEW9
variable {gv : xm_H → Prop} {K : Nat}
def ar_0 : Nat → Nat → Int32 := fun c => if c = 2 then w0 else if c = 4 then w0 else if c = 22 then w0 else if c = 52 then upd (upd (upd (upd (upd (upd (upd (upd (fun _ => 0) 0 20) 1 20) 2 20) 3 20) 4 20) 5 20) 6 20) 7 20 else if c = 53 then upd (upd (upd (fun _ => 0) 0 0) 1 10) 2 10 else if c = 77 then upd (upd (upd (upd (upd (upd (fun _ => 0) 0 (-1)) 1 (-1)) 2 (-1)) 3 (-1)) 4 (-1)) 5 (-1) else fun _ => 0
def fl_0 : Nat → Nat → Int32 := fun c k => if 32 ≤ c ∧ c ≤ 42 ∧ k < 2 then -1 else 0
def lo_0 : Nat → Nat → Int64 := fun _ _ => 0
theorem sh_eq : va_up (va_up (va_up (va_up (va_up (va_up (fun _ => none) 0 (some 32)) 1 (some 34)) 2 (some 36)) 3 (some 38)) 4 (some 40)) 5 (some 42) = xs_sh := by
  funext j
  match j with
  | 0 => rfl
  | 1 => rfl
  | 2 => rfl
  | 3 => rfl
  | 4 => rfl
  | 5 => rfl
  | j + 6 =>
    rw [u_ne (by omega), u_ne (by omega), u_ne (by omega), u_ne (by omega), u_ne (by omega), u_ne (by omega)]
    rfl
def hq45 : xm_H := .inr (8, [.ref 1, .ref 3, .ref 5, .ref 13, .ref 16, .ref 20, .ref 21, .ref 23, .int 0, .ref 24, .ref 25, .ref 28, .ref 31]) :: (rk11 ++ .inl (4, 6, .inr (.inr (.inr (.inr xs_sh)))) :: [.inr (5, [.int (-1), .int (-1), .int 0, .ref 33]), .inl (3, 60, .inr (.inl (fun _ => 0))), .inr (5, [.int (-1), .int (-1), .int 0, .ref 35]), .inl (3, 60, .inr (.inl (fun _ => 0))), .inr (5, [.int (-1), .int (-1), .int 0, .ref 37]), .inl (3, 60, .inr (.inl (fun _ => 0))), .inr (5, [.int (-1), .int (-1), .int 0, .ref 39]), .inl (3, 60, .inr (.inl (fun _ => 0))), .inr (5, [.int (-1), .int (-1), .int 0, .ref 41]), .inl (3, 60, .inr (.inl (fun _ => 0))), .inr (5, [.int (-1), .int (-1), .int 0, .ref 43]), .inl (3, 60, .inr (.inl (fun _ => 0)))])
theorem hq_eq : hq44 = hq45 := by
  unfold hq44 hq45
  rw [sh_eq]
set_option maxRecDepth 100000 in
set_option maxHeartbeats 4000000 in
theorem c_init9 (hK : 0 < K) (H : gv (HP ar_0 lo_0 fl_0)) : xm_Call K sX9_init 9 [.ref 44] (hq45 ++ [.inr (9, xm_df 9)]) (xm_pv gv) := by
  refine eX9_init (K := 0) hK ⟨_, ap_get rfl⟩ ?_
  refine ⟨by decide, ⟨by decide +kernel, by decide +kernel, by decide +kernel, by decide +kernel⟩, _, ap_new (m := 45) rfl (by decide +kernel) rfl, by decide, ⟨by decide +kernel, by decide +kernel, by decide +kernel, by decide +kernel⟩, _, ap_new (m := 46) rfl (by decide +kernel) rfl, ?_⟩
  refine ⟨by decide, ⟨by decide +kernel, by decide +kernel, by decide +kernel, by decide +kernel⟩, _, ap_new (m := 47) rfl (by decide +kernel) rfl, by decide, ⟨by decide +kernel, by decide +kernel, by decide +kernel, by decide +kernel⟩, _, ap_new (m := 48) rfl (by decide +kernel) rfl, ?_⟩
  refine ⟨by decide, ⟨by decide +kernel, by decide +kernel, by decide +kernel, by decide +kernel⟩, _, ap_new (m := 49) rfl (by decide +kernel) rfl, by decide, ⟨by decide +kernel, by decide +kernel, by decide +kernel, by decide +kernel⟩, _, ap_new (m := 50) rfl (by decide +kernel) rfl, ?_⟩
  refine ⟨by decide, ⟨by decide +kernel, by decide +kernel, by decide +kernel, by decide +kernel⟩, _, ap_new (m := 51) rfl (by decide +kernel) rfl, by decide, ⟨by decide +kernel, by decide +kernel, by decide +kernel, by decide +kernel⟩, _, ap_stl (j := 0) (by omega) (by omega), ?_⟩
  refine ⟨_, ap_stl (j := 1) (by omega) (by omega), _, ap_stl (j := 2) (by omega) (by omega), _, ap_stl (j := 3) (by omega) (by omega), _, ap_stl (j := 4) (by omega) (by omega), ?_⟩
  refine ⟨_, ap_stl (j := 5) (by omega) (by omega), _, ap_stl (j := 6) (by omega) (by omega), _, ap_stl (j := 7) (by omega) (by omega), _, ap_new (m := 52) rfl (by decide +kernel) rfl, ?_⟩
  refine ⟨by decide, ⟨by decide +kernel, by decide +kernel, by decide +kernel, by decide +kernel⟩, _, ap_stl (j := 0) (by omega) (by omega), _, ap_stl (j := 1) (by omega) (by omega), _, ap_stl (j := 2) (by omega) (by omega), ?_⟩
  refine ⟨_, ap_new (m := 53) rfl (by decide +kernel) rfl, by decide, ⟨by decide +kernel, by decide +kernel, by decide +kernel, by decide +kernel⟩, _, ap_new (m := 54) rfl (by decide +kernel) rfl, by decide, ⟨by decide +kernel, by decide +kernel, by decide +kernel, by decide +kernel⟩, ?_⟩
  refine ⟨_, ap_new (m := 55) rfl (by decide +kernel) rfl, by decide, ⟨by decide +kernel, by decide +kernel, by decide +kernel, by decide +kernel⟩, _, ap_new (m := 56) rfl (by decide +kernel) rfl, by decide, ⟨by decide +kernel, by decide +kernel, by decide +kernel, by decide +kernel⟩, ?_⟩
  refine ⟨_, ap_new (m := 57) rfl (by decide +kernel) rfl, by decide, ⟨by decide +kernel, by decide +kernel, by decide +kernel, by decide +kernel⟩, _, ap_new (m := 58) rfl (by decide +kernel) rfl, by decide, ⟨by decide +kernel, by decide +kernel, by decide +kernel, by decide +kernel⟩, ?_⟩
  refine ⟨_, ap_new (m := 59) rfl (by decide +kernel) rfl, by decide, ⟨by decide +kernel, by decide +kernel, by decide +kernel, by decide +kernel⟩, _, ap_new (m := 60) rfl (by decide +kernel) rfl, by decide, ⟨by decide +kernel, by decide +kernel, by decide +kernel, by decide +kernel⟩, ?_⟩
  refine ⟨_, ap_new (m := 61) rfl (by decide +kernel) rfl, by decide, ⟨by decide +kernel, by decide +kernel, by decide +kernel, by decide +kernel⟩, _, ap_new (m := 62) rfl (by decide +kernel) rfl, by decide, ⟨by decide +kernel, by decide +kernel, by decide +kernel, by decide +kernel⟩, ?_⟩
  refine ⟨_, ap_new (m := 63) rfl (by decide +kernel) rfl, by decide, ⟨by decide +kernel, by decide +kernel, by decide +kernel, by decide +kernel⟩, _, ap_new (m := 64) rfl (by decide +kernel) rfl, by decide, ⟨by decide +kernel, by decide +kernel, by decide +kernel, by decide +kernel⟩, ?_⟩
  refine ⟨_, ap_new (m := 65) rfl (by decide +kernel) rfl, by decide, ⟨by decide +kernel, by decide +kernel, by decide +kernel, by decide +kernel⟩, _, ap_new (m := 66) rfl (by decide +kernel) rfl, by decide, ⟨by decide +kernel, by decide +kernel, by decide +kernel, by decide +kernel⟩, ?_⟩
  refine ⟨_, ap_new (m := 67) rfl (by decide +kernel) rfl, by decide, ⟨by decide +kernel, by decide +kernel, by decide +kernel, by decide +kernel⟩, _, ap_new (m := 68) rfl (by decide +kernel) rfl, by decide, ⟨by decide +kernel, by decide +kernel, by decide +kernel, by decide +kernel⟩, ?_⟩
  refine ⟨_, ap_new (m := 69) rfl (by decide +kernel) rfl, by decide, ⟨by decide +kernel, by decide +kernel, by decide +kernel, by decide +kernel⟩, _, ap_new (m := 70) rfl (by decide +kernel) rfl, by decide, ⟨by decide +kernel, by decide +kernel, by decide +kernel, by decide +kernel⟩, ?_⟩
  refine ⟨_, ap_new (m := 71) rfl (by decide +kernel) rfl, by decide, ⟨by decide +kernel, by decide +kernel, by decide +kernel, by decide +kernel⟩, _, ap_new (m := 72) rfl (by decide +kernel) rfl, by decide, ⟨by decide +kernel, by decide +kernel, by decide +kernel, by decide +kernel⟩, ?_⟩
  refine ⟨_, ap_new (m := 73) rfl (by decide +kernel) rfl, by decide, ⟨by decide +kernel, by decide +kernel, by decide +kernel, by decide +kernel⟩, _, ap_new (m := 74) rfl (by decide +kernel) rfl, by decide, ⟨by decide +kernel, by decide +kernel, by decide +kernel, by decide +kernel⟩, ?_⟩
  refine ⟨_, ap_new (m := 75) rfl (by decide +kernel) rfl, by decide, ⟨by decide +kernel, by decide +kernel, by decide +kernel, by decide +kernel⟩, _, ap_new (m := 76) rfl (by decide +kernel) rfl, by decide, ⟨by decide +kernel, by decide +kernel, by decide +kernel, by decide +kernel⟩, ?_⟩
  refine ⟨_, ap_stl (j := 0) (by omega) (by omega), _, ap_stl (j := 1) (by omega) (by omega), _, ap_stl (j := 2) (by omega) (by omega), _, ap_stl (j := 3) (by omega) (by omega), ?_⟩
  refine ⟨_, ap_stl (j := 4) (by omega) (by omega), _, ap_stl (j := 5) (by omega) (by omega), _, ap_new (m := 77) rfl (by decide +kernel) rfl, by decide, ⟨by decide +kernel, by decide +kernel, by decide +kernel, by decide +kernel⟩, ?_⟩
  refine ⟨_, ap_new (m := 78) rfl (by decide +kernel) rfl, by decide, ⟨by decide +kernel, by decide +kernel, by decide +kernel, by decide +kernel⟩, _, ap_new (m := 79) rfl (by decide +kernel) rfl, by decide, ⟨by decide +kernel, by decide +kernel, by decide +kernel, by decide +kernel⟩, ?_⟩
  refine ⟨_, ap_new (m := 80) rfl (by decide +kernel) rfl, ?_⟩
  refine xm_pv_i ?_
  exact H
theorem INV0 : INV ar_0 lo_0 fl_0 0 0 dflt := by
  have z0 : ∀ k, ar_0 2 k = w0 k := fun _ => rfl
  have wz : ∀ k, k < 56 → w0 k = 0 := by decide +kernel
  have wbig : ∀ k, 67 ≤ k → w0 k = 0 := fun k hk => by
    unfold w0
    rw [p_ne (by omega), p_ne (by omega), p_ne (by omega), p_ne (by omega), p_ne (by omega), p_ne (by omega), p_ne (by omega), p_ne (by omega), p_ne (by omega), p_ne (by omega), p_ne (by omega)]
  have may7 : ∀ a, a < 8 → ¬ w0 (56 + a) < 0 ∧ ¬ (99 : Int32) < w0 (56 + a) := by decide +kernel
  have mir : ∀ o, o < 8 → ∀ a, a < 8 → ar_0 (45 + o) a = w0 (8 * o + a) := by decide +kernel
  have mir2 : ∀ o, o < 3 → ar_0 53 o = w0 (64 + o) := by decide +kernel
  have shs : ∀ s, s < 6 → fl_0 (32 + 2 * s) 0 = -1 ∧ ar_0 77 s = -1 := by decide +kernel
  refine ⟨⟨⟨⟨rfl, rfl, by omega⟩, ⟨wbig, wbig, ?_⟩, fun o a h => ?_, fun o a h1 h2 h3 => wz _ (by omega), fun o a h => ?_⟩, Or.inl ⟨rfl, rfl⟩, Or.inl ⟨rfl, rfl⟩⟩, ⟨⟨0, 0, by omega, rfl, rfl, rfl, rfl, fun k hk => absurd hk (by omega)⟩, fun j _ => rfl, Or.inl ⟨rfl, rfl⟩⟩, ⟨0, by omega, rfl, rfl, fun k hk => absurd hk (by omega)⟩, ⟨⟨by omega, rfl, rfl, fun k hk => absurd hk (by omega)⟩, 0, by omega, rfl, rfl, fun k hk => absurd hk (by omega)⟩, fun s hs => Or.inl (shs s hs)⟩
  · intro p _ _
    exact ⟨rfl, rfl, rfl, rfl⟩
  · rcases h with ⟨_, h⟩ | ⟨rfl, h⟩ | ⟨h1, h2, rfl⟩
    · omega
    · exact may7 a h
    · rcases (show o = 8 ∨ o = 9 ∨ o = 10 by omega) with rfl | rfl | rfl
      · exact ⟨by decide +kernel, by decide +kernel⟩
      · exact ⟨by decide +kernel, by decide +kernel⟩
      · exact ⟨by decide +kernel, by decide +kernel⟩
  · rcases h with ⟨h1, h2⟩ | ⟨h1, h2, rfl⟩
    · unfold mC mI cel
      rw [if_pos h1, if_pos h1, if_pos h1]
      exact mir o (by omega) a h2
    · unfold mC mI cel
      rw [if_neg (by omega), if_neg (by omega), if_neg (by omega)]
      have := mir2 (o - 8) (by omega)
      rw [show 64 + (o - 8) = 56 + o by omega] at this
      exact this
end NEW9
