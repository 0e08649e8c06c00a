section RDM
variable {A : Nat → Nat → Int32} {L : Nat → Nat → Int64} {F : Nat → Nat → Int32} {A' F' : Nat → Nat → Int32} {gv : xm_H → Prop} {g : Int32 → xm_H → Prop} {P : Option Value → xm_H → Prop} {sg : Nat → Nat} {K t p r o m v s n k f ch q ln : Nat} {x x1 x2 x3 x4 y z : Int32} {h : xm_H} {ts acc l : List Nat} {b : (Nat → Int32) × (Nat → Int32) × (Nat → Int32)}
def aOf (s : Nat) : Nat := if 1000 ≤ s then 1 else if s < 6 then 2 else if s = 33 then 3 else if s = 126 then 4 else s
def wOf (s : Nat) : Nat := if 1000 ≤ s then s - 1000 else if s < 6 then s else 0
def TpM (A : Nat → Nat → Int32) (sg : Nat → Nat) (t : Nat) : Prop := t ≤ 120 ∧ Tp sg t ∧ ∀ k, k < t → A 58 k = byI (sg k)
/-- the reference reads: so far all is well -/
def RdM (A F : Nat → Nat → Int32) (t p o : Nat) (ts : List Nat) (b : (Nat → Int32) × (Nat → Int32) × (Nat → Int32)) (A' F' : Nat → Nat → Int32) : Prop := (Ag [59, 60, 61, 62, 63] A A' ∧ (A' 61 = b.1 ∧ A' 62 = b.2.1 ∧ A' 63 = b.2.2) ∧ Ag [44] F F' ∧ (∀ k, k ∉ [19, 20, 21, 22] → F' 44 k = F 44 k) ∧ ∀ k, k < 130 → A' 59 k = A 59 k ∧ A' 60 k = A 60 k) ∧ F' 44 19 = Int32.ofNat p ∧ F' 44 20 = -1 ∧ F' 44 21 = Int32.ofNat o ∧ F' 44 22 = Int32.ofNat ts.length ∧ ∀ k, k < ts.length → A' 59 (130 + k) = Int32.ofNat (aOf (ts.getD k 0)) ∧ A' 60 (130 + k) = Int32.ofNat (wOf (ts.getD k 0))
/-- there is a fault at p; it stands at q, ln steps are laid -/
def RdN (A F : Nat → Nat → Int32) (p q ln : Nat) (b : (Nat → Int32) × (Nat → Int32) × (Nat → Int32)) (A' F' : Nat → Nat → Int32) : Prop := (Ag [59, 60, 61, 62, 63] A A' ∧ (A' 61 = b.1 ∧ A' 62 = b.2.1 ∧ A' 63 = b.2.2) ∧ Ag [44] F F' ∧ (∀ k, k ∉ [19, 20, 21, 22] → F' 44 k = F 44 k) ∧ ∀ k, k < 130 → A' 59 k = A 59 k ∧ A' 60 k = A 60 k) ∧ F' 44 19 = Int32.ofNat q ∧ F' 44 20 = Int32.ofNat p ∧ F' 44 22 = Int32.ofNat ln
theorem by_sgn : ∀ s, s < 256 → (s < 128 ∧ byI s = Int32.ofNat s) ∨ (128 ≤ s ∧ (byI s < 0 ∨ 127 < byI s)) := by decide +kernel
theorem m_look (hK : 0 < K) (hT : TpM A sg t) (h58 : A' 58 = A 58) (h1 : F' 44 18 = Int32.ofNat t) (h2 : F' 44 19 = Int32.ofNat p) (hp : p ≤ t) (H : ∀ x, Sgn x (sg p) → (sg p < 128 → x = Int32.ofNat (sg p)) → g x (HP A' L F')) : xm_Call K sX9_look 9 [.ref 44] (HP A' L F') (xm_pi g) := by
  obtain ⟨t1, t2, t3⟩ := hT
  refine eX9_look (K := 0) hK ⟨_, rfl⟩ ⟨_, rfl, _, rfl, ?_⟩
  rw [h1, h2]
  by_cases hlt : p < t
  · rw [if_pos ((n_lt (by omega) (by omega)).mpr hlt)]
    refine ⟨_, rfl, _, rfl, ?_⟩
    rw [h2]
    refine ⟨_, ln_58 (by omega), xm_pi_i ?_⟩
    rw [h58, t3 p hlt]
    have hs := by_sgn (sg p) ((t2 p).1 hlt)
    refine H _ hs (fun q => ?_)
    rcases hs with ⟨_, e⟩ | ⟨e, _⟩
    · exact e
    · omega
  · rw [if_neg (n_ge (by omega) (by omega) (by omega))]
    have e := (t2 p).2 (by omega)
    exact xm_pi_i (H _ (Or.inr ⟨by omega, Or.inl (by decide)⟩) (fun q => by omega))
theorem c_nameOf9 (hK : 0 < K) (hs : Sgn x s) (H : g (nmI s) h) : xm_Call K sX9_nameOf 99 [.int x] h (xm_pi g) := by
  refine eX9_nameOf (K := 0) hK ?_
  have e : ∀ ch : Nat, ch < 128 → (x = Int32.ofNat ch ↔ s = ch) := fun ch hc => hs.eq hc
  by_cases h1 : s = 97
  · rw [if_pos (show x = (97 : Int32) from (e 97 (by omega)).mpr h1)]; subst h1; exact xm_pi_i H
  rw [if_neg (show ¬ x = (97 : Int32) from fun q => h1 ((e 97 (by omega)).mp q))]
  by_cases h2 : s = 103
  · rw [if_pos (show x = (103 : Int32) from (e 103 (by omega)).mpr h2)]; subst h2; exact xm_pi_i H
  rw [if_neg (show ¬ x = (103 : Int32) from fun q => h2 ((e 103 (by omega)).mp q))]
  by_cases h3 : s = 107
  · rw [if_pos (show x = (107 : Int32) from (e 107 (by omega)).mpr h3)]; subst h3; exact xm_pi_i H
  rw [if_neg (show ¬ x = (107 : Int32) from fun q => h3 ((e 107 (by omega)).mp q))]
  by_cases h4 : s = 111
  · rw [if_pos (show x = (111 : Int32) from (e 111 (by omega)).mpr h4)]; subst h4; exact xm_pi_i H
  rw [if_neg (show ¬ x = (111 : Int32) from fun q => h4 ((e 111 (by omega)).mp q))]
  by_cases h5 : s = 115
  · rw [if_pos (show x = (115 : Int32) from (e 115 (by omega)).mpr h5)]; subst h5; exact xm_pi_i H
  rw [if_neg (show ¬ x = (115 : Int32) from fun q => h5 ((e 115 (by omega)).mp q))]
  by_cases h6 : s = 119
  · rw [if_pos (show x = (119 : Int32) from (e 119 (by omega)).mpr h6)]; subst h6; exact xm_pi_i H
  rw [if_neg (show ¬ x = (119 : Int32) from fun q => h6 ((e 119 (by omega)).mp q))]
  have en : nmI s = -1 := by unfold nmI nmN; rw [if_neg]; rw [if_neg h3, if_neg h6, if_neg h1, if_neg h4, if_neg h5, if_neg h2]; omega
  rw [en] at H; exact xm_pi_i H
theorem m_inD (hK : 0 < K) (hs : Sgn x s) (H : isD s → g 1 h) (H2 : ¬ isD s → g 0 h) : xm_Call K sX9_in 99 [.int x, .int 48, .int 57] h (xm_pi g) := by
  have hd := hs.dig
  exact m_in2 hK (fun a1 a2 => H (hd.mp ⟨a1, a2⟩)) (fun q => H2 (fun z => q.elim (hd.mpr z).1 (hd.mpr z).2))
theorem RdM.get (h : RdM A F t p o ts b A' F') (ht : F 44 18 = Int32.ofNat t) : A' 58 = A 58 ∧ F' 44 18 = Int32.ofNat t ∧ F' 44 19 = Int32.ofNat p := ⟨h.1.1 58 (by simp), by rw [h.1.2.2.2.1 18 (by simp)]; exact ht, h.2.1⟩
theorem RdM.go (h : RdM A F t p o ts b A' F') : RdM A F t (p + 1) o ts b A' (va_up F' 44 (va_up (F' 44) 19 (Int32.ofNat (p + 1)))) := by
  obtain ⟨⟨a1, a2, a3, a4, a5⟩, b1, b2, b3, b4, b5⟩ := h
  refine ⟨⟨a1, a2, Ag.up a3 (by simp), fun k hk => ?_, a5⟩, by rw [u_eq, u_eq], by rw [u_eq, u_ne (by omega)]; exact b2, by rw [u_eq, u_ne (by omega)]; exact b3, by rw [u_eq, u_ne (by omega)]; exact b4, b5⟩
  simp at hk
  rw [u_eq, u_ne (by omega)]; exact a4 k (by simp; omega)
theorem RdM.opn {o' : Nat} (h : RdM A F t p o ts b A' F') : RdM A F t p o' ts b A' (va_up F' 44 (va_up (F' 44) 21 (Int32.ofNat o'))) := by
  obtain ⟨⟨a1, a2, a3, a4, a5⟩, b1, b2, b3, b4, b5⟩ := h
  refine ⟨⟨a1, a2, Ag.up a3 (by simp), fun k hk => ?_, a5⟩, by rw [u_eq, u_ne (by omega)]; exact b1, by rw [u_eq, u_ne (by omega)]; exact b2, by rw [u_eq, u_eq], by rw [u_eq, u_ne (by omega)]; exact b4, b5⟩
  simp at hk
  rw [u_eq, u_ne (by omega)]; exact a4 k (by simp; omega)
theorem RdN.opn (h : RdN A F p q ln b A' F') : RdN A F p q ln b A' (va_up F' 44 (va_up (F' 44) 21 x)) := by
  obtain ⟨⟨a1, a2, a3, a4, a5⟩, b1, b2, b4⟩ := h
  refine ⟨⟨a1, a2, Ag.up a3 (by simp), fun k hk => ?_, a5⟩, by rw [u_eq, u_ne (by omega)]; exact b1, by rw [u_eq, u_ne (by omega)]; exact b2, by rw [u_eq, u_ne (by omega)]; exact b4⟩
  simp at hk
  rw [u_eq, u_ne (by omega)]; exact a4 k (by simp; omega)
theorem m_wrong (hK : 0 < K) (h : RdM A F t p o ts b A' F') (H : ∀ F2, RdN A F p p ts.length b A' F2 → gv (HP A' L F2)) : xm_Call K sX9_wrong 9 [.ref 44] (HP A' L F') (xm_pv gv) := by
  obtain ⟨⟨a1, a2, a3, a4, a5⟩, b1, b2, b3, b4, b5⟩ := h
  refine eX9_wrong (K := 0) hK ⟨_, rfl⟩ ⟨_, rfl, ?_⟩
  rw [b2, if_pos (by decide)]
  refine ⟨_, rfl, _, p_44_20, xm_pv_i (H _ ⟨⟨a1, a2, Ag.up a3 (by simp), fun k hk => ?_, a5⟩, by rw [u_eq, u_ne (by omega)]; exact b1, by rw [u_eq, u_eq]; exact b1, by rw [u_eq, u_ne (by omega)]; exact b4⟩)⟩
  simp at hk
  rw [u_eq, u_ne (by omega)]; exact a4 k (by simp; omega)
theorem n_130 (k : Nat) : (130 : Int32) + Int32.ofNat k = Int32.ofNat (130 + k) := n_add 130 k
theorem m_addN (hK : 0 < K) (h : RdN A F p q ln b A' F') (hl : ln < 130) (H : ∀ A2 F2, RdN A F p q (ln + 1) b A2 F2 → gv (HP A2 L F2)) : xm_Call K sX9_addStep 9 [.ref 44, .int x1, .int x2] (HP A' L F') (xm_pv gv) := by
  obtain ⟨⟨a1, a2, a3, a4, a5⟩, b1, b2, b4⟩ := h
  refine eX9_addStep (K := 0) hK ⟨_, rfl⟩ ⟨_, rfl, _, rfl, ?_⟩
  rw [b4, n_130]
  refine ⟨_, sn_59 (by omega), _, rfl, _, rfl, ?_⟩
  rw [b4, n_130]
  refine ⟨_, sn_60 (by omega), _, rfl, _, p_44_22, xm_pv_i (H _ _ ⟨⟨Ag.up (Ag.up a1 (by simp)) (by simp), a2, Ag.up a3 (by simp), fun k hk => ?_, fun k hk => ?_⟩, by rw [u_eq, u_ne (by omega)]; exact b1, by rw [u_eq, u_ne (by omega)]; exact b2, by rw [u_eq, u_eq, b4, n_succ]⟩)⟩
  · simp at hk
    rw [u_eq, u_ne (by omega)]; exact a4 k (by simp; omega)
  · show upd (A' 59) (130 + ln) _ k = _ ∧ upd (A' 60) (130 + ln) _ k = _
    rw [p_ne (by omega), p_ne (by omega)]; exact a5 k hk
theorem nar_a : ∀ a, a < 128 → xm_nar 1 ((Int32.toInt8 (Int32.ofNat a)).toInt32) = Int32.ofNat a := by decide +kernel
theorem gdn_app (hk : k < ts.length) : (ts ++ [s]).getD k 0 = ts.getD k 0 := by
  rw [List.getD_eq_getElem?_getD, List.getD_eq_getElem?_getD, List.getElem?_append_left hk]
theorem gdn_last : (ts ++ [s]).getD ts.length 0 = s := by
  rw [List.getD_eq_getElem?_getD, List.getElem?_append_right (Nat.le_refl _)]; simp
theorem m_addM (hK : 0 < K) (h : RdM A F t p o ts b A' F') (hl : ts.length < 130) (ha : aOf s < 128) (e1 : x1 = Int32.ofNat (aOf s)) (e2 : x2 = Int32.ofNat (wOf s)) (H : ∀ A2 F2, RdM A F t p o (ts ++ [s]) b A2 F2 → gv (HP A2 L F2)) : xm_Call K sX9_addStep 9 [.ref 44, .int x1, .int x2] (HP A' L F') (xm_pv gv) := by
  obtain ⟨⟨a1, a2, a3, a4, a5⟩, b1, b2, b3, b4, b5⟩ := h
  subst e1; subst e2
  have len : (ts ++ [s]).length = ts.length + 1 := by rw [List.length_append]; rfl
  refine eX9_addStep (K := 0) hK ⟨_, rfl⟩ ⟨_, rfl, _, rfl, ?_⟩
  rw [b4, n_130]
  refine ⟨_, sn_59 (by omega), _, rfl, _, rfl, ?_⟩
  rw [b4, n_130]
  refine ⟨_, sn_60 (by omega), _, rfl, _, p_44_22, xm_pv_i (H _ _ ⟨⟨Ag.up (Ag.up a1 (by simp)) (by simp), a2, Ag.up a3 (by simp), fun k hk => ?_, fun k hk => ?_⟩, by rw [u_eq, u_ne (by omega)]; exact b1, by rw [u_eq, u_ne (by omega)]; exact b2, by rw [u_eq, u_ne (by omega)]; exact b3, by rw [u_eq, u_eq, b4, n_succ, len], fun k hk => ?_⟩)⟩
  · simp at hk
    rw [u_eq, u_ne (by omega)]; exact a4 k (by simp; omega)
  · show upd (A' 59) (130 + ts.length) _ k = _ ∧ upd (A' 60) (130 + ts.length) _ k = _
    rw [p_ne (by omega), p_ne (by omega)]; exact a5 k hk
  · rw [len] at hk
    show upd (A' 59) (130 + ts.length) (xm_nar 1 ((Int32.toInt8 (Int32.ofNat (aOf s))).toInt32)) (130 + k) = _ ∧ upd (A' 60) (130 + ts.length) (Int32.ofNat (wOf s)) (130 + k) = _
    by_cases e : k = ts.length
    · subst e; rw [p_eq, p_eq, gdn_last, nar_a _ ha]; exact ⟨rfl, rfl⟩
    · rw [p_ne (by omega), p_ne (by omega), gdn_app (by omega)]; exact b5 k (by omega)
theorem n_dig9 {v s : Nat} (hs : 48 ≤ s) : (10 : Int32) * Int32.ofNat v + Int32.ofNat s - 48 = Int32.ofNat (10 * v + (s - 48)) := by
  have e1 : (10 : Int32) * Int32.ofNat v = Int32.ofNat (10 * v) := n_mul 10 v
  rw [e1, n_add, show 10 * v + s = (10 * v + (s - 48)) + 48 by omega, ← n_add]
  exact Int32.add_sub_cancel _ _
/-- a number, from its digits on -/
theorem m_num (hT : TpM A sg t) (ht : F 44 18 = Int32.ofNat t) (hK : 1 < K) : ∀ (m p v : Nat) (A' F' : Nat → Nat → Int32), m ≤ 4 → (m = 4 → isD (sg p)) → p ≤ t → v + 1 ≤ 10 ^ (4 - m) → ts.length < 129 → RdM A F t p o ts b A' F' → (∀ A2 F2, ¬ isD (sg (pDig sg m p v).1) → RdM A F t (pDig sg m p v).1 o (ts ++ [1000 + (pDig sg m p v).2]) b A2 F2 → gv (HP A2 L F2)) → (∀ A2 F2, isD (sg (pDig sg m p v).1) → RdN A F (pDig sg m p v).1 (pDig sg m p v).1 (ts.length + 1) b A2 F2 → gv (HP A2 L F2)) → xm_L K sX9_figure kX9_figure 4 [some (.ref 44), some (.int (Int32.ofNat v)), some (.int (Int32.ofNat (4 - m)))] [] (HP A' L F') (xm_pv gv)
  | 0, p, v, A', F', _, _, hp, hv, hl, hr, H, H2 => by
    obtain ⟨g1, g2, g3⟩ := hr.get ht
    refine xX9_figure_4 ?_
    rw [if_neg (by decide), if_neg (by decide)]
    refine m_look (sg := sg) (by omega) hT g1 g2 g3 hp (fun x hs _ => m_inD (by omega) hs (fun hd => ?_) (fun hd => ?_))
    · rw [if_neg (by decide)]
      exact m_wrong (by omega) hr (fun F2 r2 => m_addN (by omega) r2 (by omega) (fun A3 F3 r3 => xm_pv_i (H2 A3 F3 hd r3)))
    · rw [if_pos rfl]
      refine m_addM (s := 1000 + v) (by omega) hr (by omega) (by unfold aOf; rw [if_pos (by omega)]; omega) (by unfold aOf; rw [if_pos (by omega)]; rfl) (by unfold wOf; rw [if_pos (by omega), show 1000 + v - 1000 = v by omega]) (fun A3 F3 r3 => xm_pv_i (H A3 F3 hd r3))
  | m + 1, p, v, A', F', hm, h4, hp, hv, hl, hr, H, H2 => by
    obtain ⟨g1, g2, g3⟩ := hr.get ht
    refine xX9_figure_4 ?_
    rw [if_pos (show Int32.ofNat (4 - (m + 1)) < (4 : Int32) from (n_lt (q := 4) (by omega) (by omega)).mpr (by omega))]
    refine m_look (sg := sg) (by omega) hT g1 g2 g3 hp (fun x hs _ => m_inD (by omega) hs (fun hd => ?_) (fun hd => ?_))
    · rw [if_neg (by decide)]
      have e : pDig sg (m + 1) p v = pDig sg m (p + 1) (10 * v + (sg p - 48)) := by show (if isD (sg p) then _ else _) = _; rw [if_pos hd]
      rw [e] at H H2
      refine m_look (sg := sg) (by omega) hT g1 g2 g3 hp (fun x2 _ hx2 => ⟨_, rfl, _, p_44_19, ?_⟩)
      rw [hx2 (by omega), n_dig9 hd.1, g3, n_succ, n_succ, show 4 - (m + 1) + 1 = 4 - m by omega]
      refine m_num hT ht hK m (p + 1) _ _ _ (by omega) (by omega) (hT.2.1.lt (by omega)) ?_ hl hr.go H H2
      rw [show 4 - m = (4 - (m + 1)) + 1 by omega, Nat.pow_succ]
      omega
    · rw [if_pos rfl]
      have e : pDig sg (m + 1) p v = (p, v) := by show (if isD (sg p) then _ else _) = _; rw [if_neg hd]
      rw [e] at H H2
      have m4 : m + 1 ≠ 4 := fun q => hd (h4 q)
      rw [if_neg (show ¬ Int32.ofNat (4 - (m + 1)) = 0 from fun q => by have := (n_eq (q := 0) (by omega) (by omega)).mp q; omega)]
      refine m_look (sg := sg) (by omega) hT g1 g2 g3 hp (fun x hs _ => m_inD (by omega) hs (fun hd2 => absurd hd2 hd) (fun _ => ?_))
      rw [if_pos rfl]
      exact m_addM (s := 1000 + v) (by omega) hr (by omega) (by unfold aOf; rw [if_pos (by omega)]; omega) (by unfold aOf; rw [if_pos (by omega)]; rfl) (by unfold wOf; rw [if_pos (by omega), show 1000 + v - 1000 = v by omega]) (fun A3 F3 r3 => xm_pv_i (H A3 F3 hd r3))
theorem m_fig0 (hT : TpM A sg t) (ht : F 44 18 = Int32.ofNat t) (hK : 2 < K) (hp : p ≤ t) (hd : ¬ isD (sg p)) (hl : ts.length < 129) (hr : RdM A F t p o ts b A' F') (H : ∀ A2 F2, RdN A F p p (ts.length + 1) b A2 F2 → gv (HP A2 L F2)) : xm_Call K sX9_figure 9 [.ref 44] (HP A' L F') (xm_pv gv) := by
  obtain ⟨g1, g2, g3⟩ := hr.get ht
  refine eX9_figure (K := 2) hK ⟨_, rfl⟩ (xX9_figure_4 ?_)
  rw [if_pos (by decide)]
  refine m_look (sg := sg) (by omega) hT g1 g2 g3 hp (fun x hs _ => m_inD (by omega) hs (fun hd2 => absurd hd2 hd) (fun _ => ?_))
  rw [if_pos rfl, if_pos rfl]
  exact m_wrong (by omega) hr (fun F2 r2 => m_addN (by omega) r2 (by omega) (fun A3 F3 r3 => xm_pv_i (H A3 F3 r3)))
theorem m_opens (hK : 1 < K) (ho : o ≤ 6) (hr : RdM A F t p o ts b A' F') (H : o < 6 → ∀ F2, RdM A F t (p + 1) (o + 1) ts b A' F2 → g 1 (HP A' L F2)) (H2 : o = 6 → ∀ F2, RdN A F p p ts.length b A' F2 → g 0 (HP A' L F2)) : xm_Call K sX9_opens 9 [.ref 44] (HP A' L F') (xm_pi g) := by
  have hr0 := hr
  obtain ⟨-, b1, b2, b3, -⟩ := hr0
  refine eX9_opens (K := 1) hK ⟨_, rfl⟩ ⟨_, rfl, ?_⟩
  rw [b3]
  by_cases e : o = 6
  · rw [e, if_pos (by decide)]
    exact m_wrong (by omega) hr (fun F2 r2 => xm_pi_i (H2 e F2 r2))
  · rw [if_neg (show ¬ Int32.ofNat o = (6 : Int32) from fun q => e ((n_eq (q := 6) (by omega) (by omega)).mp q))]
    refine ⟨_, rfl, _, p_44_21, _, rfl, _, p_44_19, xm_pi_i ?_⟩
    rw [b3, n_succ]
    have r2 := (hr.opn (o' := o + 1))
    rw [r2.2.1, n_succ]
    exact H (by omega) _ r2.go
end RDM
