section RDO
variable {A : Nat → Nat → Int32} {L : Nat → Nat → Int64} {F : Nat → Nat → Int32} {A' F' : Nat → Nat → Int32} {gv : xm_H → Prop} {g : Int32 → xm_H → Prop} {P : Option Value → xm_H → Prop} {sg : Nat → Nat} {K K' t p r o m v s n k j f ch q ln : Nat} {x x1 x2 x3 x4 y z : Int32} {h : xm_H} {ts acc l : List Nat} {b : (Nat → Int32) × (Nat → Int32) × (Nat → Int32)}
def lnTs (ln : List Nat × Option (List Nat)) : List Nat := match ln with
  | (l1, none) => l1
  | (l1, some l2) => l1 ++ l2
def lnTE (b : Nat) (ln : List Nat × Option (List Nat)) : Nat := match ln with
  | (_, none) => b
  | (l1, some _) => b + l1.length
def bLn (b : (Nat → Int32) × (Nat → Int32) × (Nat → Int32)) (m n : Nat) (ln : List Nat × Option (List Nat)) : (Nat → Int32) × (Nat → Int32) × (Nat → Int32) := (upd b.1 1 (Int32.ofNat (m + 1)), upd b.2.1 (61 + m) (Int32.ofNat (lnTE n ln)), upd b.2.2 (61 + m) (Int32.ofNat (n + (lnTs ln).length)))
theorem RdM.s61 (h : RdM A F t p o ts b A' F') : RdM A F t p o ts (upd b.1 k x, b.2.1, b.2.2) (va_up A' 61 (upd (A' 61) k x)) F' := by
  obtain ⟨⟨a1, a2, a3, a4, a5⟩, b1⟩ := h
  exact ⟨⟨Ag.up a1 (by simp), ⟨by rw [u_eq, a2.1], a2.2.1, a2.2.2⟩, a3, a4, a5⟩, b1⟩
theorem RdM.s62 (h : RdM A F t p o ts b A' F') : RdM A F t p o ts (b.1, upd b.2.1 k x, b.2.2) (va_up A' 62 (upd (A' 62) k x)) F' := by
  obtain ⟨⟨a1, a2, a3, a4, a5⟩, b1⟩ := h
  exact ⟨⟨Ag.up a1 (by simp), ⟨a2.1, by rw [u_eq, a2.2.1], a2.2.2⟩, a3, a4, a5⟩, b1⟩
theorem RdM.s63 (h : RdM A F t p o ts b A' F') : RdM A F t p o ts (b.1, b.2.1, upd b.2.2 k x) (va_up A' 63 (upd (A' 63) k x)) F' := by
  obtain ⟨⟨a1, a2, a3, a4, a5⟩, b1⟩ := h
  exact ⟨⟨Ag.up a1 (by simp), ⟨a2.1, a2.2.1, by rw [u_eq, a2.2.2]⟩, a3, a4, a5⟩, b1⟩
theorem RdN.s61 (h : RdN A F p q ln b A' F') : RdN A F p q ln (upd b.1 k x, b.2.1, b.2.2) (va_up A' 61 (upd (A' 61) k x)) F' := by
  obtain ⟨⟨a1, a2, a3, a4, a5⟩, b1⟩ := h
  exact ⟨⟨Ag.up a1 (by simp), ⟨by rw [u_eq, a2.1], a2.2.1, a2.2.2⟩, a3, a4, a5⟩, b1⟩
theorem RdN.s63 (h : RdN A F p q ln b A' F') : RdN A F p q ln (b.1, b.2.1, upd b.2.2 k x) (va_up A' 63 (upd (A' 63) k x)) F' := by
  obtain ⟨⟨a1, a2, a3, a4, a5⟩, b1⟩ := h
  exact ⟨⟨Ag.up a1 (by simp), ⟨a2.1, a2.2.1, by rw [u_eq, a2.2.2]⟩, a3, a4, a5⟩, b1⟩
theorem nar_s : ∀ a, a < 300 → xm_nar 2 ((Int32.toInt16 (Int32.ofNat a)).toInt32) = Int32.ofNat a := by decide +kernel
theorem n_61 (k : Nat) : (61 : Int32) + Int32.ofNat k = Int32.ofNat (61 + k) := n_add 61 k
/-- of the lines that stand below nothing has changed -/
def bLo (b b' : (Nat → Int32) × (Nat → Int32) × (Nat → Int32)) : Prop := b'.1 0 = b.1 0 ∧ (∀ k, k < 61 → b'.2.1 k = b.2.1 k) ∧ ∀ k, k < 61 → b'.2.2 k = b.2.2 k
theorem bLo.tr {b1 b2 b3 : (Nat → Int32) × (Nat → Int32) × (Nat → Int32)} (h1 : bLo b1 b2) (h2 : bLo b2 b3) : bLo b1 b3 := ⟨h2.1.trans h1.1, fun k hk => (h2.2.1 k hk).trans (h1.2.1 k hk), fun k hk => (h2.2.2 k hk).trans (h1.2.2 k hk)⟩
theorem bLo_u : bLo b (upd b.1 1 x, upd b.2.1 (61 + m) y, upd b.2.2 (61 + m) z) := ⟨p_ne (f := b.1) (x := x) (show (0 : Nat) ≠ 1 by omega), fun k hk => p_ne (f := b.2.1) (x := y) (show k ≠ 61 + m by omega), fun k hk => p_ne (f := b.2.2) (x := z) (show k ≠ 61 + m by omega)⟩
theorem bLo_u2 : bLo b (upd b.1 1 x, b.2.1, upd b.2.2 (61 + m) z) := ⟨p_ne (f := b.1) (x := x) (show (0 : Nat) ≠ 1 by omega), fun k hk => rfl, fun k hk => p_ne (f := b.2.2) (x := z) (show k ≠ 61 + m by omega)⟩
theorem bLn_lo {ln : List Nat × Option (List Nat)} : bLo b (bLn b m n ln) := bLo_u
theorem m_line (hT : TpM A sg t) (ht : F 44 18 = Int32.ofNat t) (hK : 81 < K) (hp : p ≤ t) (hl : ts.length ≤ p) (hm : m ≤ 60) (hb : b.1 1 = Int32.ofNat m) {A1 F1 : Nat → Nat → Int32} (rd : RdM A F t p 0 ts b A1 F1) (Hok : ∀ ln A' F', (lnR sg p).2 = some ln → RdM A F t (lnR sg p).1 0 (ts ++ lnTs ln) (bLn b m ts.length ln) A' F' → p < (lnR sg p).1 → (lnR sg p).1 ≤ t → (ts ++ lnTs ln).length ≤ (lnR sg p).1 → gv (HP A' L F')) (Hf : ∀ A' F' q ln' b', (lnR sg p).2 = none → RdN A F (lnR sg p).1 q ln' b' A' F' → q ≤ t → (lnR sg p).1 ≤ t → bLo b b' → gv (HP A' L F')) : xm_Call K sX9_line 9 [.ref 44] (HP A1 L F1) (xm_pv gv) := by
  have t1 := hT.1
  have t2 := hT.2.1
  obtain ⟨f1, f2, f3⟩ := eR_f t2 t1 hp
  refine eX9_line (K := 81) hK ⟨_, rfl⟩ ⟨_, rfl, _, ln_61 (j := 1) (by omega), _, rfl, _, rfl, ?_⟩
  rw [rd.1.2.1.1, hb, n_61, rd.2.2.2.2.1]
  refine ⟨_, sn_62 (by omega), ?_⟩
  rw [nar_s _ (by omega)]
  have rd1 := rd.s62 (k := 61 + m) (x := Int32.ofNat ts.length)
  have tail : ∀ (A4 F4 : Nat → Nat → Int32) (tl : List Nat) (b4 : (Nat → Int32) × (Nat → Int32) × (Nat → Int32)), RdM A F t (lnR sg p).1 0 tl b4 A4 F4 → tl.length < 300 → b4.1 = b.1 → (∀ A5 F5, RdM A F t (lnR sg p).1 0 tl (upd b.1 1 (Int32.ofNat (m + 1)), b4.2.1, upd b4.2.2 (61 + m) (Int32.ofNat tl.length)) A5 F5 → gv (HP A5 L F5)) → ∃ q16, xm_fld (HP A4 L F4) 44 9 27 = some (.ref q16) ∧ ∃ f17, xm_fld (HP A4 L F4) 44 9 22 = some (.int f17) ∧ ∃ h18, xm_sto (HP A4 L F4) 2 q16 (Int32.ofNat (61 + m)) ((Int32.toInt16 f17).toInt32) = some h18 ∧ ∃ q19, xm_fld h18 44 9 25 = some (.ref q19) ∧ ∃ e20, xm_ld xm_st h18 0 q19 (1 : Int32) = some e20 ∧ ∃ h21, xm_sto h18 0 q19 (1 : Int32) (e20 + (1 : Int32)) = some h21 ∧ xm_pv gv none h21 := by
    intro A4 F4 tl b4 r4 htl e4 H
    refine ⟨_, rfl, _, rfl, ?_⟩
    rw [r4.2.2.2.2.1]
    refine ⟨_, sn_63 (by omega), _, rfl, _, ln_61 (j := 1) (by omega), _, sn_61 (j := 1) (by omega), xm_pv_i ?_⟩
    rw [nar_s _ htl]
    have r5 := (r4.s63 (k := 61 + m) (x := Int32.ofNat tl.length)).s61 (k := 1) (x := Int32.ofNat (m + 1))
    have e61 : va_up A4 63 (upd (A4 63) (61 + m) (Int32.ofNat tl.length)) 61 1 = Int32.ofNat m := by rw [u_ne (by omega), r4.1.2.1.1, e4]; exact hb
    rw [e61, n_succ]
    have e5 : upd (b4.1, b4.2.1, upd b4.2.2 (61 + m) (Int32.ofNat tl.length)).1 1 (Int32.ofNat (m + 1)) = upd b.1 1 (Int32.ofNat (m + 1)) := by show upd b4.1 _ _ = _; rw [e4]
    rw [e5] at r5
    exact H _ _ r5
  have tailN : ∀ (A4 F4 : Nat → Nat → Int32) (q4 n4 : Nat) (b4 : (Nat → Int32) × (Nat → Int32) × (Nat → Int32)), (lnR sg p).2 = none → RdN A F (lnR sg p).1 q4 n4 b4 A4 F4 → q4 ≤ t → (lnR sg p).1 ≤ t → bLo b b4 → ∃ q16, xm_fld (HP A4 L F4) 44 9 27 = some (.ref q16) ∧ ∃ f17, xm_fld (HP A4 L F4) 44 9 22 = some (.int f17) ∧ ∃ h18, xm_sto (HP A4 L F4) 2 q16 (Int32.ofNat (61 + m)) ((Int32.toInt16 f17).toInt32) = some h18 ∧ ∃ q19, xm_fld h18 44 9 25 = some (.ref q19) ∧ ∃ e20, xm_ld xm_st h18 0 q19 (1 : Int32) = some e20 ∧ ∃ h21, xm_sto h18 0 q19 (1 : Int32) (e20 + (1 : Int32)) = some h21 ∧ xm_pv gv none h21 := by
    intro A4 F4 q4 n4 b4 hnone r4 hq hpt hlo
    refine ⟨_, rfl, _, rfl, _, sn_63 (by omega), _, rfl, _, ln_61 (j := 1) (by omega), _, sn_61 (j := 1) (by omega), xm_pv_i ?_⟩
    refine Hf _ _ q4 n4 _ hnone (r4.s63.s61) hq hpt ?_
    exact hlo.tr bLo_u2
  have lo1 : bLo b (b.1, upd b.2.1 (61 + m) (Int32.ofNat ts.length), b.2.2) := ⟨rfl, fun k hk => p_ne (by omega), fun _ _ => rfl⟩
  refine (m_read (sg := sg) (L := L) hT ht 2000).1 81 0 0 p _ ts _ _ _ _ (eR_eq t2 t1 hp) (by omega) (by omega) hp (by omega) hl rd1 ⟨fun l A2 F2 z r2 => ?_, fun A2 F2 q n2 z rn hq hln => ?_⟩
  · refine ⟨_, rfl, ?_⟩
    rw [r2.2.2.1, if_pos (by decide)]
    obtain ⟨c1, c2, c3⟩ := f3 l z
    obtain ⟨k1, k2, k3⟩ := r2.get ht
    have len1 : (ts ++ l).length = ts.length + l.length := List.length_append
    have e1 : eR sg p = ((eR sg p).1, some l) := by rw [← z]
    refine m_look (sg := sg) (by omega) hT k1 k2 k3 f2 (fun x hs _ => ?_)
    have e63 : x = (63 : Int32) ↔ sg (eR sg p).1 = 63 := hs.eq (ch := 63) (by omega)
    by_cases h63 : sg (eR sg p).1 = 63
    · rw [if_pos (e63.mpr h63)]
      have hpt : (eR sg p).1 < t := t2.lt (by omega)
      refine ⟨_, rfl, _, p_44_19, ?_⟩
      rw [k3, n_succ]
      have r3 := r2.go
      refine ⟨_, rfl, _, rfl, ?_⟩
      rw [r3.2.2.2.2.1]
      refine ⟨_, sn_62 (by omega), ?_⟩
      rw [nar_s _ (by omega)]
      have r4 := r3.s62 (k := 61 + m) (x := Int32.ofNat (ts ++ l).length)
      have eb : ((b.1, upd b.2.1 (61 + m) (Int32.ofNat ts.length), b.2.2).1, upd (b.1, upd b.2.1 (61 + m) (Int32.ofNat ts.length), b.2.2).2.1 (61 + m) (Int32.ofNat (ts ++ l).length), (b.1, upd b.2.1 (61 + m) (Int32.ofNat ts.length), b.2.2).2.2) = (b.1, upd b.2.1 (61 + m) (Int32.ofNat (ts ++ l).length), b.2.2) := by
        show (b.1, upd (upd b.2.1 (61 + m) _) (61 + m) _, b.2.2) = _
        rw [upd_upd]
      rw [eb] at r4
      obtain ⟨d1, d2, d3⟩ := eR_f t2 t1 (show (eR sg p).1 + 1 ≤ t by omega)
      refine (m_read (sg := sg) (L := L) hT ht 2000).1 81 0 0 ((eR sg p).1 + 1) _ (ts ++ l) _ _ _ _ (eR_eq t2 t1 (by omega)) (by omega) (by omega) (by omega) (by omega) (by omega) r4 ⟨fun l2 A4 F4 z2 r5 => ?_, fun A4 F4 q n2 z2 rn hq hln => ?_⟩
      · obtain ⟨g1', g2', g3'⟩ := d3 l2 z2
        have e2 : eR sg ((eR sg p).1 + 1) = ((eR sg ((eR sg p).1 + 1)).1, some l2) := by rw [← z2]
        have el : lnR sg p = ((eR sg ((eR sg p).1 + 1)).1, some (l, some l2)) := by
          unfold lnR
          rw [e1]
          show (if sg (eR sg p).1 = 63 then _ else _) = _
          rw [if_pos h63, e2]
        have len2 : (ts ++ l ++ l2).length = ts.length + l.length + l2.length := by rw [List.length_append, len1]
        have r5' : RdM A F t (lnR sg p).1 0 (ts ++ l ++ l2) (b.1, upd b.2.1 (61 + m) (Int32.ofNat (ts ++ l).length), b.2.2) A4 F4 := by rw [el]; exact r5
        refine tail A4 F4 _ _ r5' (by omega) rfl (fun A5 F5 r6 => Hok (l, some l2) A5 F5 (by rw [el]) ?_ (by rw [el]; show p < (eR sg ((eR sg p).1 + 1)).1; omega) (by rw [el]; exact d2) ?_)
        · show RdM A F t (lnR sg p).1 0 (ts ++ (l ++ l2)) (upd b.1 1 (Int32.ofNat (m + 1)), upd b.2.1 (61 + m) (Int32.ofNat (ts.length + l.length)), upd b.2.2 (61 + m) (Int32.ofNat (ts.length + (l ++ l2).length))) A5 F5
          have e3 : (ts ++ l ++ l2).length = (ts ++ l).length + l2.length := List.length_append
          rw [← List.append_assoc, List.length_append, ← Nat.add_assoc, ← len1]
          rw [e3] at r6
          exact r6
        · rw [el]; show (ts ++ (l ++ l2)).length ≤ (eR sg ((eR sg p).1 + 1)).1
          rw [List.length_append, List.length_append]
          omega
      · have e2 : eR sg ((eR sg p).1 + 1) = ((eR sg ((eR sg p).1 + 1)).1, none) := by rw [← z2]
        have el : lnR sg p = ((eR sg ((eR sg p).1 + 1)).1, none) := by
          unfold lnR
          rw [e1]
          show (if sg (eR sg p).1 = 63 then _ else _) = _
          rw [if_pos h63, e2]
        exact tailN A4 F4 q n2 (b.1, upd b.2.1 (61 + m) (Int32.ofNat (ts ++ l).length), b.2.2) (by rw [el]) (by rw [el]; exact rn) hq (by rw [el]; exact d2) ⟨rfl, fun k hk => p_ne (by omega), fun _ _ => rfl⟩
    · rw [if_neg (fun q => h63 (e63.mp q))]
      have el : lnR sg p = ((eR sg p).1, some (l, none)) := by
        unfold lnR
        rw [e1]
        show (if sg (eR sg p).1 = 63 then _ else _) = _
        rw [if_neg h63]
      have r2' : RdM A F t (lnR sg p).1 0 (ts ++ l) (b.1, upd b.2.1 (61 + m) (Int32.ofNat ts.length), b.2.2) A2 F2 := by rw [el]; exact r2
      refine tail A2 F2 _ _ r2' (by omega) rfl (fun A5 F5 r6 => Hok (l, none) A5 F5 (by rw [el]) ?_ (by rw [el]; show p < (eR sg p).1; omega) (by rw [el]; exact f2) (by rw [el]; show (ts ++ l).length ≤ (eR sg p).1; omega))
      show RdM A F t (lnR sg p).1 0 (ts ++ l) (upd b.1 1 (Int32.ofNat (m + 1)), upd b.2.1 (61 + m) (Int32.ofNat ts.length), upd b.2.2 (61 + m) (Int32.ofNat (ts.length + l.length))) A5 F5
      rw [← len1]; exact r6
  · have e1 : eR sg p = ((eR sg p).1, none) := by rw [← z]
    have el : lnR sg p = ((eR sg p).1, none) := by
      unfold lnR
      rw [e1]
    refine ⟨_, rfl, ?_⟩
    rw [if_neg (by rw [rn.2.2.1]; exact xs_nn (by omega))]
    exact tailN A2 F2 q n2 (b.1, upd b.2.1 (61 + m) (Int32.ofNat ts.length), b.2.2) (by rw [el]) (by rw [el]; exact rn) hq (by rw [el]; exact f2) lo1
end RDO
