def kX4_init : List xm_I := [
  i_0 0 (.aload_n 0) 1 none,
  i_f 1 (.invokespecial 3) 3 none 0 0 [153, 127, 128] 2,
  i_0 4 (.aload_n 0) 1 none,
  i_f 5 (.new 9) 3 none 6 3 [154, 155, 111] 0,
  i_0 8 (.dup) 1 none,
  i_m 9 (.invokespecial 11) 3 none 0 6 [156, 157, 111, 158] 1 sX6_init,
  i_f 12 (.putfield 12) 3 none 4 0 [170] 1,
  i_0 15 (.aload_n 0) 1 none,
  i_v 16 (.bipush 6) 2 none 6 [],
  i_f 18 (.newarray .int) 2 none 0 6 [147] 6,
  i_f 20 (.putfield 18) 3 none 4 1 [172] 1,
  i_0 23 (.aload_n 0) 1 none,
  i_v 24 (.bipush 8) 2 none 8 [],
  i_f 26 (.newarray .int) 2 none 0 8 [147] 8,
  i_f 28 (.putfield 22) 3 none 4 2 [173] 1,
  i_0 31 (.aload_n 0) 1 none,
  i_v 32 (.bipush 8) 2 none 8 [],
  i_f 34 (.newarray .int) 2 none 0 8 [147] 8,
  i_f 36 (.putfield 25) 3 none 4 3 [174] 1,
  i_0 39 (.aload_n 0) 1 none,
  i_v 40 (.bipush 8) 2 none 8 [],
  i_f 42 (.newarray .int) 2 none 0 8 [147] 8,
  i_f 44 (.putfield 28) 3 none 4 4 [176] 1,
  i_0 47 (.aload_n 0) 1 none,
  i_v 48 (.iconst 0) 1 none 0 [],
  i_f 49 (.putfield 31) 3 none 4 5 [178] 0,
  i_0 52 (.aload_n 0) 1 none,
  i_v 53 (.iconst 0) 1 none 0 [],
  i_f 54 (.putfield 35) 3 none 4 6 [179] 0,
  i_0 57 (.aload_n 0) 1 none,
  i_v 58 (.iconst 0) 1 none 0 [],
  i_f 59 (.putfield 38) 3 none 4 7 [180] 0,
  i_0 62 (.aload_n 0) 1 none,
  i_v 63 (.iconst 0) 1 none 0 [],
  i_f 64 (.putfield 41) 3 none 4 8 [182] 0,
  i_0 67 (.aload_n 0) 1 none,
  i_v 68 (.iconst 0) 1 none 0 [],
  i_f 69 (.putfield 44) 3 none 4 9 [184] 0,
  i_0 72 (.aload_n 0) 1 none,
  i_v 73 (.iconst 0) 1 none 0 [],
  i_f 74 (.putfield 47) 3 none 4 10 [186] 0,
  i_0 77 (.return_) 1 none]
set_option maxRecDepth 100000 in
theorem oX4_init : xm_ok sX4_init sX4_init.1.cls kX4_init = true := by decide +kernel
set_option maxRecDepth 100000 in
set_option maxHeartbeats 4000000 in
theorem xX4_init_0 {K : Nat} {h : xm_H} {P : Option Value → xm_H → Prop} {a0 : Nat} (H :
    (0 + 1 ≤ 7 ∧ 0 + 3 ≤ 289) ∧ xm_va h [some (.ref a0)] [.ref a0] 1 ∧
    (1 + 2 ≤ 7 ∧ 3 + 256 ≤ 289 ∧ 1 ≤ 45) ∧ xm_va (h ++ [.inr (6, xm_df 6)]) [some (.ref a0)] [.ref (List.length h), .ref a0] 2 ∧
    xm_Call K sX6_init 6 [.ref (List.length h)] (h ++ [.inr (6, xm_df 6)]) (xm_pv fun h1 =>
      ∃ h2, xm_put h1 a0 4 0 (.ref (List.length h)) = some h2 ∧ /- text -/
      (3 + 1 ≤ 7 ∧ 259 + 6 ≤ 289) ∧ xm_va h2 [some (.ref a0)] [.ref a0] 1 ∧
      ∃ h3, xm_put (h2 ++ [xm_za 0 6]) a0 4 1 (.ref (List.length h2)) = some h3 ∧ /- names -/
      (4 + 1 ≤ 7 ∧ 265 + 8 ≤ 289) ∧ xm_va h3 [some (.ref a0)] [.ref a0] 1 ∧
      ∃ h4, xm_put (h3 ++ [xm_za 0 8]) a0 4 2 (.ref (List.length h3)) = some h4 ∧ /- weights -/
      (5 + 1 ≤ 7 ∧ 273 + 8 ≤ 289) ∧ xm_va h4 [some (.ref a0)] [.ref a0] 1 ∧
      ∃ h5, xm_put (h4 ++ [xm_za 0 8]) a0 4 3 (.ref (List.length h4)) = some h5 ∧ /- assessed -/
      (6 + 1 ≤ 7 ∧ 281 + 8 ≤ 289) ∧ xm_va h5 [some (.ref a0)] [.ref a0] 1 ∧
      ∃ h6, xm_put (h5 ++ [xm_za 0 8]) a0 4 4 (.ref (List.length h5)) = some h6 ∧ /- shares -/
      ∃ h7, xm_put h6 a0 4 5 (.int (0 : Int32)) = some h7 ∧ /- sayers -/
      ∃ h8, xm_put h7 a0 4 6 (.int (0 : Int32)) = some h8 ∧ /- goers -/
      ∃ h9, xm_put h8 a0 4 7 (.int (0 : Int32)) = some h9 ∧ /- whole -/
      ∃ h10, xm_put h9 a0 4 8 (.int (0 : Int32)) = some h10 ∧ /- total -/
      ∃ h11, xm_put h10 a0 4 9 (.int (0 : Int32)) = some h11 ∧ /- paid -/
      ∃ h12, xm_put h11 a0 4 10 (.int (0 : Int32)) = some h12 ∧ /- lacking -/
      P none h12)) :
    xm_At xm_st K sX4_init sX4_init.1.cls kX4_init 0 0 0 [some (.ref a0)] [] h P :=
  xm_run (fun _ _ h => h) oX4_init 43 0 0 0 [some (.ref a0)] [] h H
set_option maxRecDepth 100000 in
theorem eX4_init {K K' : Nat} (hK : K < K') {h : xm_H} {P : Option Value → xm_H → Prop} {a0 : Nat} (hr : ∃ fs, h[a0]? = some (.inr (4, fs))) (H :
    (0 + 1 ≤ 7 ∧ 0 + 3 ≤ 289) ∧ xm_va h [some (.ref a0)] [.ref a0] 1 ∧
    (1 + 2 ≤ 7 ∧ 3 + 256 ≤ 289 ∧ 1 ≤ 45) ∧ xm_va (h ++ [.inr (6, xm_df 6)]) [some (.ref a0)] [.ref (List.length h), .ref a0] 2 ∧
    xm_Call K sX6_init 6 [.ref (List.length h)] (h ++ [.inr (6, xm_df 6)]) (xm_pv fun h1 =>
      ∃ h2, xm_put h1 a0 4 0 (.ref (List.length h)) = some h2 ∧ /- text -/
      (3 + 1 ≤ 7 ∧ 259 + 6 ≤ 289) ∧ xm_va h2 [some (.ref a0)] [.ref a0] 1 ∧
      ∃ h3, xm_put (h2 ++ [xm_za 0 6]) a0 4 1 (.ref (List.length h2)) = some h3 ∧ /- names -/
      (4 + 1 ≤ 7 ∧ 265 + 8 ≤ 289) ∧ xm_va h3 [some (.ref a0)] [.ref a0] 1 ∧
      ∃ h4, xm_put (h3 ++ [xm_za 0 8]) a0 4 2 (.ref (List.length h3)) = some h4 ∧ /- weights -/
      (5 + 1 ≤ 7 ∧ 273 + 8 ≤ 289) ∧ xm_va h4 [some (.ref a0)] [.ref a0] 1 ∧
      ∃ h5, xm_put (h4 ++ [xm_za 0 8]) a0 4 3 (.ref (List.length h4)) = some h5 ∧ /- assessed -/
      (6 + 1 ≤ 7 ∧ 281 + 8 ≤ 289) ∧ xm_va h5 [some (.ref a0)] [.ref a0] 1 ∧
      ∃ h6, xm_put (h5 ++ [xm_za 0 8]) a0 4 4 (.ref (List.length h5)) = some h6 ∧ /- shares -/
      ∃ h7, xm_put h6 a0 4 5 (.int (0 : Int32)) = some h7 ∧ /- sayers -/
      ∃ h8, xm_put h7 a0 4 6 (.int (0 : Int32)) = some h8 ∧ /- goers -/
      ∃ h9, xm_put h8 a0 4 7 (.int (0 : Int32)) = some h9 ∧ /- whole -/
      ∃ h10, xm_put h9 a0 4 8 (.int (0 : Int32)) = some h10 ∧ /- total -/
      ∃ h11, xm_put h10 a0 4 9 (.int (0 : Int32)) = some h11 ∧ /- paid -/
      ∃ h12, xm_put h11 a0 4 10 (.int (0 : Int32)) = some h12 ∧ /- lacking -/
      P none h12)) :
    xm_Call K' sX4_init 4 [.ref a0] h P :=
  xm_call_of (C := kX4_init) hK (by decide +kernel) rfl (Nat.le_of_ble_eq_true rfl) (Or.inr ⟨a0, hr.choose, rfl, hr.choose_spec⟩) (xX4_init_0 H)

def kX4_isSaid : List xm_I := [
  i_0 0 (.iload_n 0) 1 none,
  i_v 1 (.iconst 1) 1 none 1 [],
  i_j 2 (.if_icmp .eq 8) 3 none 6,
  i_0 5 (.iload_n 0) 1 none,
  i_v 6 (.iconst 2) 1 none 2 [],
  i_j 7 (.if_icmp .ne 7) 3 none 8,
  i_v 10 (.iconst 1) 1 none 1 [],
  i_j 11 (.goto 4) 3 none 9,
  i_v 14 (.iconst 0) 1 none 0 [],
  i_0 15 (.ireturn) 1 none]
set_option maxRecDepth 100000 in
theorem oX4_isSaid : xm_ok sX4_isSaid sX4_isSaid.1.cls kX4_isSaid = true := by decide +kernel
set_option maxRecDepth 100000 in
set_option maxHeartbeats 4000000 in
theorem xX4_isSaid_0 {K : Nat} {h : xm_H} {P : Option Value → xm_H → Prop} {x0 : Int32} (H :
    (if x0 = (1 : Int32) then
      P (some (.int (1 : Int32))) h
    else
      (if x0 = (2 : Int32) then
        P (some (.int (1 : Int32))) h
      else
        P (some (.int (0 : Int32))) h))) :
    xm_L K sX4_isSaid kX4_isSaid 0 [some (.int x0)] [] h P :=
  xm_run (fun _ _ h => h) oX4_isSaid 10 0 0 0 [some (.int x0)] [] h H
set_option maxRecDepth 100000 in
theorem eX4_isSaid {K K' : Nat} (hK : K < K') {h : xm_H} {P : Option Value → xm_H → Prop} {x0 : Int32} (H :
    (if x0 = (1 : Int32) then
      P (some (.int (1 : Int32))) h
    else
      (if x0 = (2 : Int32) then
        P (some (.int (1 : Int32))) h
      else
        P (some (.int (0 : Int32))) h))) :
    xm_Call K' sX4_isSaid 99 [.int x0] h P :=
  xm_call_of (C := kX4_isSaid) hK (by decide +kernel) rfl (Nat.le_of_ble_eq_true rfl) (Or.inl rfl) (xX4_isSaid_0 H)

def kX4_isGone : List xm_I := [
  i_0 0 (.iload_n 0) 1 none,
  i_v 1 (.iconst 2) 1 none 2 [],
  i_j 2 (.if_icmp .lt 7) 3 none 5,
  i_v 5 (.iconst 1) 1 none 1 [],
  i_j 6 (.goto 4) 3 none 6,
  i_v 9 (.iconst 0) 1 none 0 [],
  i_0 10 (.ireturn) 1 none]
set_option maxRecDepth 100000 in
theorem oX4_isGone : xm_ok sX4_isGone sX4_isGone.1.cls kX4_isGone = true := by decide +kernel
set_option maxRecDepth 100000 in
set_option maxHeartbeats 4000000 in
theorem xX4_isGone_0 {K : Nat} {h : xm_H} {P : Option Value → xm_H → Prop} {x0 : Int32} (H :
    (if x0 < (2 : Int32) then
      P (some (.int (0 : Int32))) h
    else
      P (some (.int (1 : Int32))) h)) :
    xm_L K sX4_isGone kX4_isGone 0 [some (.int x0)] [] h P :=
  xm_run (fun _ _ h => h) oX4_isGone 7 0 0 0 [some (.int x0)] [] h H
set_option maxRecDepth 100000 in
theorem eX4_isGone {K K' : Nat} (hK : K < K') {h : xm_H} {P : Option Value → xm_H → Prop} {x0 : Int32} (H :
    (if x0 < (2 : Int32) then
      P (some (.int (0 : Int32))) h
    else
      P (some (.int (1 : Int32))) h)) :
    xm_Call K' sX4_isGone 99 [.int x0] h P :=
  xm_call_of (C := kX4_isGone) hK (by decide +kernel) rfl (Nat.le_of_ble_eq_true rfl) (Or.inl rfl) (xX4_isGone_0 H)

def kX4_look : List xm_I := [
  i_0 0 (.aload_n 0) 1 none,
  i_v 1 (.iconst 0) 1 none 0 [],
  i_f 2 (.putfield 31) 3 none 4 5 [178] 0,
  i_0 5 (.aload_n 0) 1 none,
  i_v 6 (.iconst 0) 1 none 0 [],
  i_f 7 (.putfield 35) 3 none 4 6 [179] 0,
  i_v 10 (.iconst 0) 1 none 0 [],
  i_0 11 (.istore_n 2) 1 none,
  i_0 12 (.iload_n 2) 1 (some [true, true, true, false]),
  i_0 13 (.aload_n 1) 1 none,
  i_f 14 (.getfield 50) 3 none 7 1 [141] 0,
  i_j 17 (.if_icmp .ge 58) 3 none 41,
  i_0 20 (.aload_n 1) 1 none,
  i_0 21 (.iload_n 2) 1 none,
  i_v 22 (.iconst 3) 1 none 3 [],
  i_m 23 (.invokevirtual 55) 3 none 2 7 [508, 509, 510, 109, 511] 0 sX7_get,
  i_0 26 (.istore_n 3) 1 none,
  i_0 27 (.aload_n 0) 1 none,
  i_0 28 (.dup) 1 none,
  i_f 29 (.getfield 31) 3 none 4 5 [178] 0,
  i_0 32 (.iload_n 3) 1 none,
  i_m 33 (.invokestatic 59) 3 none 1 99 [512, 513, 110, 514] 0 sX4_isSaid,
  i_j 36 (.ifCond .eq 7) 3 none 25,
  i_v 39 (.iconst 1) 1 none 1 [],
  i_j 40 (.goto 4) 3 none 26,
  i_v 43 (.iconst 0) 1 none 0 [],
  i_0 44 (.iadd) 1 none,
  i_f 45 (.putfield 31) 3 none 4 5 [178] 0,
  i_0 48 (.aload_n 0) 1 none,
  i_0 49 (.dup) 1 none,
  i_f 50 (.getfield 35) 3 none 4 6 [179] 0,
  i_0 53 (.iload_n 3) 1 none,
  i_m 54 (.invokestatic 63) 3 none 1 99 [515, 516, 110, 517] 0 sX4_isGone,
  i_j 57 (.ifCond .eq 7) 3 none 36,
  i_v 60 (.iconst 1) 1 none 1 [],
  i_j 61 (.goto 4) 3 none 37,
  i_v 64 (.iconst 0) 1 none 0 [],
  i_0 65 (.iadd) 1 none,
  i_f 66 (.putfield 35) 3 none 4 6 [179] 0,
  i_v 69 (.iinc 2 1) 3 none 1 [],
  i_j 72 (.goto (-60)) 3 none 8,
  i_0 75 (.return_) 1 none]
set_option maxRecDepth 100000 in
theorem oX4_look : xm_ok sX4_look sX4_look.1.cls kX4_look = true := by decide +kernel
set_option maxRecDepth 100000 in
set_option maxHeartbeats 4000000 in
theorem xX4_look_0 {K : Nat} {h : xm_H} {P : Option Value → xm_H → Prop} {a0 : Nat} {a1 : Nat} (H :
    ∃ h1, xm_put h a0 4 5 (.int (0 : Int32)) = some h1 ∧ /- sayers -/
    ∃ h2, xm_put h1 a0 4 6 (.int (0 : Int32)) = some h2 ∧ /- goers -/
    xm_L K sX4_look kX4_look 8 [some (.ref a0), some (.ref a1), some (.int (0 : Int32)), none] [] h2 P) :
    xm_L K sX4_look kX4_look 0 [some (.ref a0), some (.ref a1), none, none] [] h P :=
  xm_run (fun _ _ h => h) oX4_look 9 0 0 0 [some (.ref a0), some (.ref a1), none, none] [] h H
set_option maxRecDepth 100000 in
theorem eX4_look {K K' : Nat} (hK : K < K') {h : xm_H} {P : Option Value → xm_H → Prop} {a0 : Nat} {a1 : Nat} (hr : ∃ fs, h[a0]? = some (.inr (4, fs))) (H :
    ∃ h1, xm_put h a0 4 5 (.int (0 : Int32)) = some h1 ∧ /- sayers -/
    ∃ h2, xm_put h1 a0 4 6 (.int (0 : Int32)) = some h2 ∧ /- goers -/
    xm_L K sX4_look kX4_look 8 [some (.ref a0), some (.ref a1), some (.int (0 : Int32)), none] [] h2 P) :
    xm_Call K' sX4_look 4 [.ref a0, .ref a1] h P :=
  xm_call_of (C := kX4_look) hK (by decide +kernel) rfl (Nat.le_of_ble_eq_true rfl) (Or.inr ⟨a0, hr.choose, rfl, hr.choose_spec⟩) (xX4_look_0 H)

set_option maxRecDepth 100000 in
set_option maxHeartbeats 4000000 in
theorem xX4_look_8 {K : Nat} {h : xm_H} {P : Option Value → xm_H → Prop} {a0 : Nat} {a1 : Nat} {x2 : Int32} (H :
    ∃ f1, xm_fld h a1 7 1 = some (.int f1) ∧ /- people -/
    (if x2 < f1 then
      xm_Call K sX7_get 7 [.ref a1, .int x2, .int (3 : Int32)] h (xm_pi fun c3 h2 =>
        ∃ f4, xm_fld h2 a0 4 5 = some (.int f4) ∧ /- sayers -/
        xm_Call K sX4_isSaid 99 [.int c3] h2 (xm_pi fun c6 h5 =>
          (if c6 = 0 then
            ∃ h7, xm_put h5 a0 4 5 (.int (f4 + (0 : Int32))) = some h7 ∧ /- sayers -/
            ∃ f8, xm_fld h7 a0 4 6 = some (.int f8) ∧ /- goers -/
            xm_Call K sX4_isGone 99 [.int c3] h7 (xm_pi fun c10 h9 =>
              (if c10 = 0 then
                ∃ h11, xm_put h9 a0 4 6 (.int (f8 + (0 : Int32))) = some h11 ∧ /- goers -/
                xm_L K sX4_look kX4_look 8 [some (.ref a0), some (.ref a1), some (.int (x2 + (1 : Int32))), none] [] h11 P
              else
                ∃ h12, xm_put h9 a0 4 6 (.int (f8 + (1 : Int32))) = some h12 ∧ /- goers -/
                xm_L K sX4_look kX4_look 8 [some (.ref a0), some (.ref a1), some (.int (x2 + (1 : Int32))), none] [] h12 P))
          else
            ∃ h13, xm_put h5 a0 4 5 (.int (f4 + (1 : Int32))) = some h13 ∧ /- sayers -/
            ∃ f14, xm_fld h13 a0 4 6 = some (.int f14) ∧ /- goers -/
            xm_Call K sX4_isGone 99 [.int c3] h13 (xm_pi fun c16 h15 =>
              (if c16 = 0 then
                ∃ h17, xm_put h15 a0 4 6 (.int (f14 + (0 : Int32))) = some h17 ∧ /- goers -/
                xm_L K sX4_look kX4_look 8 [some (.ref a0), some (.ref a1), some (.int (x2 + (1 : Int32))), none] [] h17 P
              else
                ∃ h18, xm_put h15 a0 4 6 (.int (f14 + (1 : Int32))) = some h18 ∧ /- goers -/
                xm_L K sX4_look kX4_look 8 [some (.ref a0), some (.ref a1), some (.int (x2 + (1 : Int32))), none] [] h18 P)))))
    else
      P none h)) :
    xm_L K sX4_look kX4_look 8 [some (.ref a0), some (.ref a1), some (.int x2), none] [] h P :=
  xm_run (fun _ _ h => h) oX4_look 32 8 0 0 [some (.ref a0), some (.ref a1), some (.int x2), none] [] h H

def kX4_countsOf : List xm_I := [
  i_0 0 (.aload_n 0) 1 none,
  i_f 1 (.getfield 18) 3 none 4 1 [172] 1,
  i_v 4 (.iconst 0) 1 none 0 [],
  i_0 5 (.aload_n 1) 1 none,
  i_0 6 (.iload_n 2) 1 none,
  i_v 7 (.iconst 4) 1 none 4 [],
  i_m 8 (.invokevirtual 55) 3 none 2 7 [508, 509, 510, 109, 511] 0 sX7_get,
  i_0 11 (.iastore) 1 none,
  i_0 12 (.aload_n 0) 1 none,
  i_f 13 (.getfield 18) 3 none 4 1 [172] 1,
  i_v 16 (.iconst 1) 1 none 1 [],
  i_0 17 (.aload_n 1) 1 none,
  i_0 18 (.iload_n 2) 1 none,
  i_v 19 (.iconst 0) 1 none 0 [],
  i_m 20 (.invokevirtual 55) 3 none 2 7 [508, 509, 510, 109, 511] 0 sX7_get,
  i_0 23 (.iastore) 1 none,
  i_0 24 (.aload_n 0) 1 none,
  i_f 25 (.getfield 18) 3 none 4 1 [172] 1,
  i_v 28 (.iconst 2) 1 none 2 [],
  i_0 29 (.aload_n 1) 1 none,
  i_0 30 (.iload_n 2) 1 none,
  i_v 31 (.iconst 2) 1 none 2 [],
  i_m 32 (.invokevirtual 55) 3 none 2 7 [508, 509, 510, 109, 511] 0 sX7_get,
  i_0 35 (.iastore) 1 none,
  i_0 36 (.aload_n 0) 1 none,
  i_f 37 (.getfield 18) 3 none 4 1 [172] 1,
  i_v 40 (.iconst 3) 1 none 3 [],
  i_0 41 (.aload_n 1) 1 none,
  i_0 42 (.iload_n 2) 1 none,
  i_v 43 (.iconst 3) 1 none 3 [],
  i_m 44 (.invokevirtual 55) 3 none 2 7 [508, 509, 510, 109, 511] 0 sX7_get,
  i_m 47 (.invokestatic 59) 3 none 1 99 [512, 513, 110, 514] 0 sX4_isSaid,
  i_j 50 (.ifCond .eq 12) 3 none 38,
  i_0 53 (.aload_n 0) 1 none,
  i_f 54 (.getfield 31) 3 none 4 5 [178] 0,
  i_v 57 (.iconst 1) 1 none 1 [],
  i_0 58 (.isub) 1 none,
  i_j 59 (.goto 7) 3 none 40,
  i_0 62 (.aload_n 0) 1 none,
  i_f 63 (.getfield 31) 3 none 4 5 [178] 0,
  i_0 66 (.iastore) 1 none,
  i_0 67 (.aload_n 0) 1 none,
  i_f 68 (.getfield 18) 3 none 4 1 [172] 1,
  i_v 71 (.iconst 4) 1 none 4 [],
  i_0 72 (.aload_n 1) 1 none,
  i_m 73 (.invokevirtual 66) 3 none 0 7 [522, 523, 524, 109, 525] 0 sX7_snow,
  i_0 76 (.iastore) 1 none,
  i_0 77 (.aload_n 0) 1 none,
  i_f 78 (.getfield 18) 3 none 4 1 [172] 1,
  i_v 81 (.iconst 5) 1 none 5 [],
  i_0 82 (.aload_n 0) 1 none,
  i_f 83 (.getfield 35) 3 none 4 6 [179] 0,
  i_0 86 (.iastore) 1 none,
  i_0 87 (.aload_n 0) 1 none,
  i_f 88 (.getfield 12) 3 none 4 0 [170] 1,
  i_m 91 (.invokevirtual 70) 3 none 0 6 [529, 530, 531, 111, 532] 0 sX6_isEmpty,
  i_j 94 (.ifCond .eq 23) 3 none 71,
  i_v 97 (.iconst 5) 1 none 5 [],
  i_0 98 (.aload_n 0) 1 none,
  i_f 99 (.getfield 18) 3 none 4 1 [172] 1,
  i_v 102 (.iconst 0) 1 none 0 [],
  i_0 103 (.iaload) 1 none,
  i_0 104 (.isub) 1 none,
  i_0 105 (.aload_n 0) 1 none,
  i_f 106 (.getfield 18) 3 none 4 1 [172] 1,
  i_v 109 (.iconst 1) 1 none 1 [],
  i_0 110 (.iaload) 1 none,
  i_v 111 (.iconst 3) 1 none 3 [],
  i_0 112 (.idiv) 1 none,
  i_0 113 (.iadd) 1 none,
  i_j 114 (.goto 14) 3 none 76,
  i_0 117 (.aload_n 0) 1 none,
  i_f 118 (.getfield 12) 3 none 4 0 [170] 1,
  i_0 121 (.aload_n 0) 1 none,
  i_f 122 (.getfield 18) 3 none 4 1 [172] 1,
  i_m 125 (.invokevirtual 74) 3 none 1 6 [533, 534, 535, 111, 536] 0 sX6_workOut,
  i_0 128 (.istore_n 3) 1 none,
  i_v 129 (.iconst 0) 1 none 0 [],
  i_v 130 (.bipush 20) 2 none 20 [],
  i_0 132 (.iload_n 3) 1 none,
  i_m 133 (.invokestatic 78) 3 none 2 99 [540, 490, 119, 491] 0 sJ9_min_7cf53,
  i_m 136 (.invokestatic 83) 3 none 2 99 [541, 493, 119, 494] 0 sJ9_max_7cf53,
  i_0 139 (.ireturn) 1 none]
set_option maxRecDepth 100000 in
theorem oX4_countsOf : xm_ok sX4_countsOf sX4_countsOf.1.cls kX4_countsOf = true := by decide +kernel
set_option maxRecDepth 100000 in
set_option maxHeartbeats 4000000 in
theorem xX4_countsOf_0 {K : Nat} {h : xm_H} {P : Option Value → xm_H → Prop} {a0 : Nat} {a1 : Nat} {x2 : Int32} (H :
    ∃ q1, xm_fld h a0 4 1 = some (.ref q1) ∧ /- names -/
    xm_Call K sX7_get 7 [.ref a1, .int x2, .int (4 : Int32)] h (xm_pi fun c3 h2 =>
      ∃ h4, xm_sto h2 0 q1 (0 : Int32) c3 = some h4 ∧
      ∃ q5, xm_fld h4 a0 4 1 = some (.ref q5) ∧ /- names -/
      xm_Call K sX7_get 7 [.ref a1, .int x2, .int (0 : Int32)] h4 (xm_pi fun c7 h6 =>
        ∃ h8, xm_sto h6 0 q5 (1 : Int32) c7 = some h8 ∧
        ∃ q9, xm_fld h8 a0 4 1 = some (.ref q9) ∧ /- names -/
        xm_Call K sX7_get 7 [.ref a1, .int x2, .int (2 : Int32)] h8 (xm_pi fun c11 h10 =>
          ∃ h12, xm_sto h10 0 q9 (2 : Int32) c11 = some h12 ∧
          ∃ q13, xm_fld h12 a0 4 1 = some (.ref q13) ∧ /- names -/
          xm_Call K sX7_get 7 [.ref a1, .int x2, .int (3 : Int32)] h12 (xm_pi fun c15 h14 =>
            xm_Call K sX4_isSaid 99 [.int c15] h14 (xm_pi fun c17 h16 =>
              (if c17 = 0 then
                ∃ f18, xm_fld h16 a0 4 5 = some (.int f18) ∧ /- sayers -/
                ∃ h19, xm_sto h16 0 q13 (3 : Int32) f18 = some h19 ∧
                ∃ q20, xm_fld h19 a0 4 1 = some (.ref q20) ∧ /- names -/
                xm_Call K sX7_snow 7 [.ref a1] h19 (xm_pi fun c22 h21 =>
                  ∃ h23, xm_sto h21 0 q20 (4 : Int32) c22 = some h23 ∧
                  ∃ q24, xm_fld h23 a0 4 1 = some (.ref q24) ∧ /- names -/
                  ∃ f25, xm_fld h23 a0 4 6 = some (.int f25) ∧ /- goers -/
                  ∃ h26, xm_sto h23 0 q24 (5 : Int32) f25 = some h26 ∧
                  ∃ q27, xm_fld h26 a0 4 0 = some (.ref q27) ∧ /- text -/
                  xm_Call K sX6_isEmpty 6 [.ref q27] h26 (xm_pi fun c29 h28 =>
                    (if c29 = 0 then
                      ∃ q30, xm_fld h28 a0 4 0 = some (.ref q30) ∧ /- text -/
                      ∃ q31, xm_fld h28 a0 4 1 = some (.ref q31) ∧ /- names -/
                      xm_Call K sX6_workOut 6 [.ref q30, .ref q31] h28 (xm_pi fun c33 h32 =>
                        xm_Call K sJ9_min_7cf53 99 [.int (20 : Int32), .int c33] h32 (xm_pi fun c35 h34 =>
                          xm_Call K sJ9_max_7cf53 99 [.int (0 : Int32), .int c35] h34 (xm_pi fun c37 h36 =>
                            P (some (.int c37)) h36)))
                    else
                      ∃ q38, xm_fld h28 a0 4 1 = some (.ref q38) ∧ /- names -/
                      ∃ e39, xm_ld xm_st h28 0 q38 (0 : Int32) = some e39 ∧
                      ∃ q40, xm_fld h28 a0 4 1 = some (.ref q40) ∧ /- names -/
                      ∃ e41, xm_ld xm_st h28 0 q40 (1 : Int32) = some e41 ∧
                      ¬ (3 : Int32) = 0 ∧
                      xm_Call K sJ9_min_7cf53 99 [.int (20 : Int32), .int (((5 : Int32) - e39) + (e41 / (3 : Int32)))] h28 (xm_pi fun c43 h42 =>
                        xm_Call K sJ9_max_7cf53 99 [.int (0 : Int32), .int c43] h42 (xm_pi fun c45 h44 =>
                          P (some (.int c45)) h44)))))
              else
                ∃ f46, xm_fld h16 a0 4 5 = some (.int f46) ∧ /- sayers -/
                ∃ h47, xm_sto h16 0 q13 (3 : Int32) (f46 - (1 : Int32)) = some h47 ∧
                ∃ q48, xm_fld h47 a0 4 1 = some (.ref q48) ∧ /- names -/
                xm_Call K sX7_snow 7 [.ref a1] h47 (xm_pi fun c50 h49 =>
                  ∃ h51, xm_sto h49 0 q48 (4 : Int32) c50 = some h51 ∧
                  ∃ q52, xm_fld h51 a0 4 1 = some (.ref q52) ∧ /- names -/
                  ∃ f53, xm_fld h51 a0 4 6 = some (.int f53) ∧ /- goers -/
                  ∃ h54, xm_sto h51 0 q52 (5 : Int32) f53 = some h54 ∧
                  ∃ q55, xm_fld h54 a0 4 0 = some (.ref q55) ∧ /- text -/
                  xm_Call K sX6_isEmpty 6 [.ref q55] h54 (xm_pi fun c57 h56 =>
                    (if c57 = 0 then
                      ∃ q58, xm_fld h56 a0 4 0 = some (.ref q58) ∧ /- text -/
                      ∃ q59, xm_fld h56 a0 4 1 = some (.ref q59) ∧ /- names -/
                      xm_Call K sX6_workOut 6 [.ref q58, .ref q59] h56 (xm_pi fun c61 h60 =>
                        xm_Call K sJ9_min_7cf53 99 [.int (20 : Int32), .int c61] h60 (xm_pi fun c63 h62 =>
                          xm_Call K sJ9_max_7cf53 99 [.int (0 : Int32), .int c63] h62 (xm_pi fun c65 h64 =>
                            P (some (.int c65)) h64)))
                    else
                      ∃ q66, xm_fld h56 a0 4 1 = some (.ref q66) ∧ /- names -/
                      ∃ e67, xm_ld xm_st h56 0 q66 (0 : Int32) = some e67 ∧
                      ∃ q68, xm_fld h56 a0 4 1 = some (.ref q68) ∧ /- names -/
                      ∃ e69, xm_ld xm_st h56 0 q68 (1 : Int32) = some e69 ∧
                      ¬ (3 : Int32) = 0 ∧
                      xm_Call K sJ9_min_7cf53 99 [.int (20 : Int32), .int (((5 : Int32) - e67) + (e69 / (3 : Int32)))] h56 (xm_pi fun c71 h70 =>
                        xm_Call K sJ9_max_7cf53 99 [.int (0 : Int32), .int c71] h70 (xm_pi fun c73 h72 =>
                          P (some (.int c73)) h72)))))))))))) :
    xm_L K sX4_countsOf kX4_countsOf 0 [some (.ref a0), some (.ref a1), some (.int x2), none] [] h P :=
  xm_run (fun _ _ h => h) oX4_countsOf 77 0 0 0 [some (.ref a0), some (.ref a1), some (.int x2), none] [] h H
set_option maxRecDepth 100000 in
theorem eX4_countsOf {K K' : Nat} (hK : K < K') {h : xm_H} {P : Option Value → xm_H → Prop} {a0 : Nat} {a1 : Nat} {x2 : Int32} (hr : ∃ fs, h[a0]? = some (.inr (4, fs))) (H :
    ∃ q1, xm_fld h a0 4 1 = some (.ref q1) ∧ /- names -/
    xm_Call K sX7_get 7 [.ref a1, .int x2, .int (4 : Int32)] h (xm_pi fun c3 h2 =>
      ∃ h4, xm_sto h2 0 q1 (0 : Int32) c3 = some h4 ∧
      ∃ q5, xm_fld h4 a0 4 1 = some (.ref q5) ∧ /- names -/
      xm_Call K sX7_get 7 [.ref a1, .int x2, .int (0 : Int32)] h4 (xm_pi fun c7 h6 =>
        ∃ h8, xm_sto h6 0 q5 (1 : Int32) c7 = some h8 ∧
        ∃ q9, xm_fld h8 a0 4 1 = some (.ref q9) ∧ /- names -/
        xm_Call K sX7_get 7 [.ref a1, .int x2, .int (2 : Int32)] h8 (xm_pi fun c11 h10 =>
          ∃ h12, xm_sto h10 0 q9 (2 : Int32) c11 = some h12 ∧
          ∃ q13, xm_fld h12 a0 4 1 = some (.ref q13) ∧ /- names -/
          xm_Call K sX7_get 7 [.ref a1, .int x2, .int (3 : Int32)] h12 (xm_pi fun c15 h14 =>
            xm_Call K sX4_isSaid 99 [.int c15] h14 (xm_pi fun c17 h16 =>
              (if c17 = 0 then
                ∃ f18, xm_fld h16 a0 4 5 = some (.int f18) ∧ /- sayers -/
                ∃ h19, xm_sto h16 0 q13 (3 : Int32) f18 = some h19 ∧
                ∃ q20, xm_fld h19 a0 4 1 = some (.ref q20) ∧ /- names -/
                xm_Call K sX7_snow 7 [.ref a1] h19 (xm_pi fun c22 h21 =>
                  ∃ h23, xm_sto h21 0 q20 (4 : Int32) c22 = some h23 ∧
                  ∃ q24, xm_fld h23 a0 4 1 = some (.ref q24) ∧ /- names -/
                  ∃ f25, xm_fld h23 a0 4 6 = some (.int f25) ∧ /- goers -/
                  ∃ h26, xm_sto h23 0 q24 (5 : Int32) f25 = some h26 ∧
                  ∃ q27, xm_fld h26 a0 4 0 = some (.ref q27) ∧ /- text -/
                  xm_Call K sX6_isEmpty 6 [.ref q27] h26 (xm_pi fun c29 h28 =>
                    (if c29 = 0 then
                      ∃ q30, xm_fld h28 a0 4 0 = some (.ref q30) ∧ /- text -/
                      ∃ q31, xm_fld h28 a0 4 1 = some (.ref q31) ∧ /- names -/
                      xm_Call K sX6_workOut 6 [.ref q30, .ref q31] h28 (xm_pi fun c33 h32 =>
                        xm_Call K sJ9_min_7cf53 99 [.int (20 : Int32), .int c33] h32 (xm_pi fun c35 h34 =>
                          xm_Call K sJ9_max_7cf53 99 [.int (0 : Int32), .int c35] h34 (xm_pi fun c37 h36 =>
                            P (some (.int c37)) h36)))
                    else
                      ∃ q38, xm_fld h28 a0 4 1 = some (.ref q38) ∧ /- names -/
                      ∃ e39, xm_ld xm_st h28 0 q38 (0 : Int32) = some e39 ∧
                      ∃ q40, xm_fld h28 a0 4 1 = some (.ref q40) ∧ /- names -/
                      ∃ e41, xm_ld xm_st h28 0 q40 (1 : Int32) = some e41 ∧
                      ¬ (3 : Int32) = 0 ∧
                      xm_Call K sJ9_min_7cf53 99 [.int (20 : Int32), .int (((5 : Int32) - e39) + (e41 / (3 : Int32)))] h28 (xm_pi fun c43 h42 =>
                        xm_Call K sJ9_max_7cf53 99 [.int (0 : Int32), .int c43] h42 (xm_pi fun c45 h44 =>
                          P (some (.int c45)) h44)))))
              else
                ∃ f46, xm_fld h16 a0 4 5 = some (.int f46) ∧ /- sayers -/
                ∃ h47, xm_sto h16 0 q13 (3 : Int32) (f46 - (1 : Int32)) = some h47 ∧
                ∃ q48, xm_fld h47 a0 4 1 = some (.ref q48) ∧ /- names -/
                xm_Call K sX7_snow 7 [.ref a1] h47 (xm_pi fun c50 h49 =>
                  ∃ h51, xm_sto h49 0 q48 (4 : Int32) c50 = some h51 ∧
                  ∃ q52, xm_fld h51 a0 4 1 = some (.ref q52) ∧ /- names -/
                  ∃ f53, xm_fld h51 a0 4 6 = some (.int f53) ∧ /- goers -/
                  ∃ h54, xm_sto h51 0 q52 (5 : Int32) f53 = some h54 ∧
                  ∃ q55, xm_fld h54 a0 4 0 = some (.ref q55) ∧ /- text -/
                  xm_Call K sX6_isEmpty 6 [.ref q55] h54 (xm_pi fun c57 h56 =>
                    (if c57 = 0 then
                      ∃ q58, xm_fld h56 a0 4 0 = some (.ref q58) ∧ /- text -/
                      ∃ q59, xm_fld h56 a0 4 1 = some (.ref q59) ∧ /- names -/
                      xm_Call K sX6_workOut 6 [.ref q58, .ref q59] h56 (xm_pi fun c61 h60 =>
                        xm_Call K sJ9_min_7cf53 99 [.int (20 : Int32), .int c61] h60 (xm_pi fun c63 h62 =>
                          xm_Call K sJ9_max_7cf53 99 [.int (0 : Int32), .int c63] h62 (xm_pi fun c65 h64 =>
                            P (some (.int c65)) h64)))
                    else
                      ∃ q66, xm_fld h56 a0 4 1 = some (.ref q66) ∧ /- names -/
                      ∃ e67, xm_ld xm_st h56 0 q66 (0 : Int32) = some e67 ∧
                      ∃ q68, xm_fld h56 a0 4 1 = some (.ref q68) ∧ /- names -/
                      ∃ e69, xm_ld xm_st h56 0 q68 (1 : Int32) = some e69 ∧
                      ¬ (3 : Int32) = 0 ∧
                      xm_Call K sJ9_min_7cf53 99 [.int (20 : Int32), .int (((5 : Int32) - e67) + (e69 / (3 : Int32)))] h56 (xm_pi fun c71 h70 =>
                        xm_Call K sJ9_max_7cf53 99 [.int (0 : Int32), .int c71] h70 (xm_pi fun c73 h72 =>
                          P (some (.int c73)) h72)))))))))))) :
    xm_Call K' sX4_countsOf 4 [.ref a0, .ref a1, .int x2] h P :=
  xm_call_of (C := kX4_countsOf) hK (by decide +kernel) rfl (Nat.le_of_ble_eq_true rfl) (Or.inr ⟨a0, hr.choose, rfl, hr.choose_spec⟩) (xX4_countsOf_0 H)

def kX4_weigh : List xm_I := [
  i_0 0 (.aload_n 0) 1 none,
  i_0 1 (.aload_n 1) 1 none,
  i_m 2 (.invokevirtual 86) 3 none 1 4 [554, 505, 506, 110, 507] 0 sX4_look,
  i_v 5 (.iconst 0) 1 none 0 [],
  i_0 6 (.istore_n 2) 1 none,
  i_0 7 (.iload_n 2) 1 (some [true, true, true, false]),
  i_v 8 (.bipush 8) 2 none 8 [],
  i_j 10 (.if_icmp .ge 53) 3 none 36,
  i_0 13 (.aload_n 1) 1 none,
  i_0 14 (.iload_n 2) 1 none,
  i_m 15 (.invokevirtual 90) 3 none 1 7 [555, 501, 502, 109, 503] 0 sX7_has,
  i_j 18 (.ifCond .eq 17) 3 none 20,
  i_0 21 (.aload_n 1) 1 none,
  i_0 22 (.iload_n 2) 1 none,
  i_v 23 (.iconst 3) 1 none 3 [],
  i_m 24 (.invokevirtual 55) 3 none 2 7 [508, 509, 510, 109, 511] 0 sX7_get,
  i_v 27 (.iconst 1) 1 none 1 [],
  i_j 28 (.if_icmp .ne 7) 3 none 20,
  i_v 31 (.iconst 1) 1 none 1 [],
  i_j 32 (.goto 4) 3 none 21,
  i_v 35 (.iconst 0) 1 none 0 [],
  i_0 36 (.istore_n 3) 1 none,
  i_0 37 (.aload_n 0) 1 none,
  i_f 38 (.getfield 22) 3 none 4 2 [173] 1,
  i_0 41 (.iload_n 2) 1 none,
  i_0 42 (.iload_n 3) 1 none,
  i_j 43 (.ifCond .eq 12) 3 none 32,
  i_0 46 (.aload_n 0) 1 none,
  i_0 47 (.aload_n 1) 1 none,
  i_0 48 (.iload_n 2) 1 none,
  i_m 49 (.invokevirtual 93) 3 none 2 4 [556, 519, 520, 110, 521] 0 sX4_countsOf,
  i_j 52 (.goto 4) 3 none 33,
  i_v 55 (.iconst 0) 1 none 0 [],
  i_0 56 (.iastore) 1 none,
  i_v 57 (.iinc 2 1) 3 none 1 [],
  i_j 60 (.goto (-53)) 3 none 5,
  i_0 63 (.return_) 1 none]
set_option maxRecDepth 100000 in
theorem oX4_weigh : xm_ok sX4_weigh sX4_weigh.1.cls kX4_weigh = true := by decide +kernel
set_option maxRecDepth 100000 in
set_option maxHeartbeats 4000000 in
theorem xX4_weigh_0 {K : Nat} {h : xm_H} {P : Option Value → xm_H → Prop} {a0 : Nat} {a1 : Nat} (H :
    xm_Call K sX4_look 4 [.ref a0, .ref a1] h (xm_pv fun h1 =>
      xm_L K sX4_weigh kX4_weigh 5 [some (.ref a0), some (.ref a1), some (.int (0 : Int32)), none] [] h1 P)) :
    xm_L K sX4_weigh kX4_weigh 0 [some (.ref a0), some (.ref a1), none, none] [] h P :=
  xm_run (fun _ _ h => h) oX4_weigh 6 0 0 0 [some (.ref a0), some (.ref a1), none, none] [] h H
set_option maxRecDepth 100000 in
theorem eX4_weigh {K K' : Nat} (hK : K < K') {h : xm_H} {P : Option Value → xm_H → Prop} {a0 : Nat} {a1 : Nat} (hr : ∃ fs, h[a0]? = some (.inr (4, fs))) (H :
    xm_Call K sX4_look 4 [.ref a0, .ref a1] h (xm_pv fun h1 =>
      xm_L K sX4_weigh kX4_weigh 5 [some (.ref a0), some (.ref a1), some (.int (0 : Int32)), none] [] h1 P)) :
    xm_Call K' sX4_weigh 4 [.ref a0, .ref a1] h P :=
  xm_call_of (C := kX4_weigh) hK (by decide +kernel) rfl (Nat.le_of_ble_eq_true rfl) (Or.inr ⟨a0, hr.choose, rfl, hr.choose_spec⟩) (xX4_weigh_0 H)

set_option maxRecDepth 100000 in
set_option maxHeartbeats 4000000 in
theorem xX4_weigh_5 {K : Nat} {h : xm_H} {P : Option Value → xm_H → Prop} {a0 : Nat} {a1 : Nat} {x2 : Int32} (H :
    (if x2 < (8 : Int32) then
      xm_Call K sX7_has 7 [.ref a1, .int x2] h (xm_pi fun c2 h1 =>
        (if c2 = 0 then
          ∃ q3, xm_fld h1 a0 4 2 = some (.ref q3) ∧ /- weights -/
          ∃ h4, xm_sto h1 0 q3 x2 (0 : Int32) = some h4 ∧
          xm_L K sX4_weigh kX4_weigh 5 [some (.ref a0), some (.ref a1), some (.int (x2 + (1 : Int32))), none] [] h4 P
        else
          xm_Call K sX7_get 7 [.ref a1, .int x2, .int (3 : Int32)] h1 (xm_pi fun c6 h5 =>
            (if c6 = (1 : Int32) then
              ∃ q7, xm_fld h5 a0 4 2 = some (.ref q7) ∧ /- weights -/
              xm_Call K sX4_countsOf 4 [.ref a0, .ref a1, .int x2] h5 (xm_pi fun c9 h8 =>
                ∃ h10, xm_sto h8 0 q7 x2 c9 = some h10 ∧
                xm_L K sX4_weigh kX4_weigh 5 [some (.ref a0), some (.ref a1), some (.int (x2 + (1 : Int32))), none] [] h10 P)
            else
              ∃ q11, xm_fld h5 a0 4 2 = some (.ref q11) ∧ /- weights -/
              ∃ h12, xm_sto h5 0 q11 x2 (0 : Int32) = some h12 ∧
              xm_L K sX4_weigh kX4_weigh 5 [some (.ref a0), some (.ref a1), some (.int (x2 + (1 : Int32))), none] [] h12 P))))
    else
      P none h)) :
    xm_L K sX4_weigh kX4_weigh 5 [some (.ref a0), some (.ref a1), some (.int x2), none] [] h P :=
  xm_run (fun _ _ h => h) oX4_weigh 30 5 0 0 [some (.ref a0), some (.ref a1), some (.int x2), none] [] h H

def kX4_shareOut : List xm_I := [
  i_0 0 (.aload_n 0) 1 none,
  i_0 1 (.aload_n 1) 1 none,
  i_m 2 (.invokevirtual 66) 3 none 0 7 [522, 523, 524, 109, 525] 0 sX7_snow,
  i_0 5 (.aload_n 1) 1 none,
  i_v 6 (.iconst 0) 1 none 0 [],
  i_v 7 (.bipush 9) 2 none 9 [],
  i_m 9 (.invokevirtual 55) 3 none 2 7 [508, 509, 510, 109, 511] 0 sX7_get,
  i_0 12 (.imul) 1 none,
  i_f 13 (.putfield 38) 3 none 4 7 [180] 0,
  i_0 16 (.aload_n 0) 1 none,
  i_v 17 (.iconst 0) 1 none 0 [],
  i_f 18 (.putfield 41) 3 none 4 8 [182] 0,
  i_v 21 (.iconst 0) 1 none 0 [],
  i_0 22 (.istore_n 3) 1 none,
  i_0 23 (.iload_n 3) 1 (some [true, false, true, true]),
  i_v 24 (.bipush 8) 2 none 8 [],
  i_j 26 (.if_icmp .ge 49) 3 none 45,
  i_0 29 (.aload_n 0) 1 none,
  i_f 30 (.getfield 25) 3 none 4 3 [174] 1,
  i_0 33 (.iload_n 3) 1 none,
  i_0 34 (.iload_n 2) 1 none,
  i_0 35 (.iload_n 3) 1 none,
  i_0 36 (.ishr) 1 none,
  i_v 37 (.iconst 1) 1 none 1 [],
  i_0 38 (.iand) 1 none,
  i_v 39 (.iconst 1) 1 none 1 [],
  i_j 40 (.if_icmp .ne 12) 3 none 32,
  i_0 43 (.aload_n 0) 1 none,
  i_f 44 (.getfield 22) 3 none 4 2 [173] 1,
  i_0 47 (.iload_n 3) 1 none,
  i_0 48 (.iaload) 1 none,
  i_j 49 (.goto 4) 3 none 33,
  i_v 52 (.iconst 0) 1 none 0 [],
  i_0 53 (.iastore) 1 none,
  i_0 54 (.aload_n 0) 1 none,
  i_0 55 (.dup) 1 none,
  i_f 56 (.getfield 41) 3 none 4 8 [182] 0,
  i_0 59 (.aload_n 0) 1 none,
  i_f 60 (.getfield 25) 3 none 4 3 [174] 1,
  i_0 63 (.iload_n 3) 1 none,
  i_0 64 (.iaload) 1 none,
  i_0 65 (.iadd) 1 none,
  i_f 66 (.putfield 41) 3 none 4 8 [182] 0,
  i_v 69 (.iinc 3 1) 3 none 1 [],
  i_j 72 (.goto (-49)) 3 none 14,
  i_0 75 (.aload_n 0) 1 none,
  i_v 76 (.iconst 0) 1 none 0 [],
  i_f 77 (.putfield 44) 3 none 4 9 [184] 0,
  i_v 80 (.iconst 0) 1 none 0 [],
  i_0 81 (.istore_n 3) 1 none,
  i_0 82 (.iload_n 3) 1 (some [true, false, false, true]),
  i_v 83 (.bipush 8) 2 none 8 [],
  i_j 85 (.if_icmp .ge 57) 3 none 83,
  i_0 88 (.aload_n 0) 1 none,
  i_f 89 (.getfield 28) 3 none 4 4 [176] 1,
  i_0 92 (.iload_n 3) 1 none,
  i_0 93 (.aload_n 0) 1 none,
  i_f 94 (.getfield 41) 3 none 4 8 [182] 0,
  i_j 97 (.ifCond .ne 7) 3 none 61,
  i_v 100 (.iconst 0) 1 none 0 [],
  i_j 101 (.goto 19) 3 none 71,
  i_0 104 (.aload_n 0) 1 none,
  i_f 105 (.getfield 38) 3 none 4 7 [180] 0,
  i_0 108 (.aload_n 0) 1 none,
  i_f 109 (.getfield 25) 3 none 4 3 [174] 1,
  i_0 112 (.iload_n 3) 1 none,
  i_0 113 (.iaload) 1 none,
  i_0 114 (.imul) 1 none,
  i_0 115 (.aload_n 0) 1 none,
  i_f 116 (.getfield 41) 3 none 4 8 [182] 0,
  i_0 119 (.idiv) 1 none,
  i_0 120 (.iastore) 1 none,
  i_0 121 (.aload_n 0) 1 none,
  i_0 122 (.dup) 1 none,
  i_f 123 (.getfield 44) 3 none 4 9 [184] 0,
  i_0 126 (.aload_n 0) 1 none,
  i_f 127 (.getfield 28) 3 none 4 4 [176] 1,
  i_0 130 (.iload_n 3) 1 none,
  i_0 131 (.iaload) 1 none,
  i_0 132 (.iadd) 1 none,
  i_f 133 (.putfield 44) 3 none 4 9 [184] 0,
  i_v 136 (.iinc 3 1) 3 none 1 [],
  i_j 139 (.goto (-57)) 3 none 50,
  i_0 142 (.return_) 1 none]
set_option maxRecDepth 100000 in
theorem oX4_shareOut : xm_ok sX4_shareOut sX4_shareOut.1.cls kX4_shareOut = true := by decide +kernel
set_option maxRecDepth 100000 in
set_option maxHeartbeats 4000000 in
theorem xX4_shareOut_0 {K : Nat} {h : xm_H} {P : Option Value → xm_H → Prop} {a0 : Nat} {a1 : Nat} {x2 : Int32} (H :
    xm_Call K sX7_snow 7 [.ref a1] h (xm_pi fun c2 h1 =>
      xm_Call K sX7_get 7 [.ref a1, .int (0 : Int32), .int (9 : Int32)] h1 (xm_pi fun c4 h3 =>
        ∃ h5, xm_put h3 a0 4 7 (.int (c2 * c4)) = some h5 ∧ /- whole -/
        ∃ h6, xm_put h5 a0 4 8 (.int (0 : Int32)) = some h6 ∧ /- total -/
        xm_L K sX4_shareOut kX4_shareOut 14 [some (.ref a0), none, some (.int x2), some (.int (0 : Int32))] [] h6 P))) :
    xm_L K sX4_shareOut kX4_shareOut 0 [some (.ref a0), some (.ref a1), some (.int x2), none] [] h P :=
  xm_run (fun _ _ h => h) oX4_shareOut 15 0 0 0 [some (.ref a0), some (.ref a1), some (.int x2), none] [] h H
set_option maxRecDepth 100000 in
theorem eX4_shareOut {K K' : Nat} (hK : K < K') {h : xm_H} {P : Option Value → xm_H → Prop} {a0 : Nat} {a1 : Nat} {x2 : Int32} (hr : ∃ fs, h[a0]? = some (.inr (4, fs))) (H :
    xm_Call K sX7_snow 7 [.ref a1] h (xm_pi fun c2 h1 =>
      xm_Call K sX7_get 7 [.ref a1, .int (0 : Int32), .int (9 : Int32)] h1 (xm_pi fun c4 h3 =>
        ∃ h5, xm_put h3 a0 4 7 (.int (c2 * c4)) = some h5 ∧ /- whole -/
        ∃ h6, xm_put h5 a0 4 8 (.int (0 : Int32)) = some h6 ∧ /- total -/
        xm_L K sX4_shareOut kX4_shareOut 14 [some (.ref a0), none, some (.int x2), some (.int (0 : Int32))] [] h6 P))) :
    xm_Call K' sX4_shareOut 4 [.ref a0, .ref a1, .int x2] h P :=
  xm_call_of (C := kX4_shareOut) hK (by decide +kernel) rfl (Nat.le_of_ble_eq_true rfl) (Or.inr ⟨a0, hr.choose, rfl, hr.choose_spec⟩) (xX4_shareOut_0 H)

set_option maxRecDepth 100000 in
set_option maxHeartbeats 4000000 in
theorem xX4_shareOut_14 {K : Nat} {h : xm_H} {P : Option Value → xm_H → Prop} {a0 : Nat} {x2 : Int32} {x3 : Int32} (H :
    (if x3 < (8 : Int32) then
      ∃ q1, xm_fld h a0 4 3 = some (.ref q1) ∧ /- assessed -/
      (if ((x2 >>> (x3 &&& 31)) &&& (1 : Int32)) = (1 : Int32) then
        ∃ q2, xm_fld h a0 4 2 = some (.ref q2) ∧ /- weights -/
        ∃ e3, xm_ld xm_st h 0 q2 x3 = some e3 ∧
        ∃ h4, xm_sto h 0 q1 x3 e3 = some h4 ∧
        ∃ f5, xm_fld h4 a0 4 8 = some (.int f5) ∧ /- total -/
        ∃ q6, xm_fld h4 a0 4 3 = some (.ref q6) ∧ /- assessed -/
        ∃ e7, xm_ld xm_st h4 0 q6 x3 = some e7 ∧
        ∃ h8, xm_put h4 a0 4 8 (.int (f5 + e7)) = some h8 ∧ /- total -/
        xm_L K sX4_shareOut kX4_shareOut 14 [some (.ref a0), none, some (.int x2), some (.int (x3 + (1 : Int32)))] [] h8 P
      else
        ∃ h9, xm_sto h 0 q1 x3 (0 : Int32) = some h9 ∧
        ∃ f10, xm_fld h9 a0 4 8 = some (.int f10) ∧ /- total -/
        ∃ q11, xm_fld h9 a0 4 3 = some (.ref q11) ∧ /- assessed -/
        ∃ e12, xm_ld xm_st h9 0 q11 x3 = some e12 ∧
        ∃ h13, xm_put h9 a0 4 8 (.int (f10 + e12)) = some h13 ∧ /- total -/
        xm_L K sX4_shareOut kX4_shareOut 14 [some (.ref a0), none, some (.int x2), some (.int (x3 + (1 : Int32)))] [] h13 P)
    else
      ∃ h14, xm_put h a0 4 9 (.int (0 : Int32)) = some h14 ∧ /- paid -/
      xm_L K sX4_shareOut kX4_shareOut 50 [some (.ref a0), none, none, some (.int (0 : Int32))] [] h14 P)) :
    xm_L K sX4_shareOut kX4_shareOut 14 [some (.ref a0), none, some (.int x2), some (.int x3)] [] h P :=
  xm_run (fun _ _ h => h) oX4_shareOut 31 14 0 0 [some (.ref a0), none, some (.int x2), some (.int x3)] [] h H

set_option maxRecDepth 100000 in
set_option maxHeartbeats 4000000 in
theorem xX4_shareOut_50 {K : Nat} {h : xm_H} {P : Option Value → xm_H → Prop} {a0 : Nat} {x3 : Int32} (H :
    (if x3 < (8 : Int32) then
      ∃ q1, xm_fld h a0 4 4 = some (.ref q1) ∧ /- shares -/
      ∃ f2, xm_fld h a0 4 8 = some (.int f2) ∧ /- total -/
      (if f2 = 0 then
        ∃ h3, xm_sto h 0 q1 x3 (0 : Int32) = some h3 ∧
        ∃ f4, xm_fld h3 a0 4 9 = some (.int f4) ∧ /- paid -/
        ∃ q5, xm_fld h3 a0 4 4 = some (.ref q5) ∧ /- shares -/
        ∃ e6, xm_ld xm_st h3 0 q5 x3 = some e6 ∧
        ∃ h7, xm_put h3 a0 4 9 (.int (f4 + e6)) = some h7 ∧ /- paid -/
        xm_L K sX4_shareOut kX4_shareOut 50 [some (.ref a0), none, none, some (.int (x3 + (1 : Int32)))] [] h7 P
      else
        ∃ f8, xm_fld h a0 4 7 = some (.int f8) ∧ /- whole -/
        ∃ q9, xm_fld h a0 4 3 = some (.ref q9) ∧ /- assessed -/
        ∃ e10, xm_ld xm_st h 0 q9 x3 = some e10 ∧
        ∃ f11, xm_fld h a0 4 8 = some (.int f11) ∧ /- total -/
        ¬ f11 = 0 ∧
        ∃ h12, xm_sto h 0 q1 x3 ((f8 * e10) / f11) = some h12 ∧
        ∃ f13, xm_fld h12 a0 4 9 = some (.int f13) ∧ /- paid -/
        ∃ q14, xm_fld h12 a0 4 4 = some (.ref q14) ∧ /- shares -/
        ∃ e15, xm_ld xm_st h12 0 q14 x3 = some e15 ∧
        ∃ h16, xm_put h12 a0 4 9 (.int (f13 + e15)) = some h16 ∧ /- paid -/
        xm_L K sX4_shareOut kX4_shareOut 50 [some (.ref a0), none, none, some (.int (x3 + (1 : Int32)))] [] h16 P)
    else
      P none h)) :
    xm_L K sX4_shareOut kX4_shareOut 50 [some (.ref a0), none, none, some (.int x3)] [] h P :=
  xm_run (fun _ _ h => h) oX4_shareOut 32 50 0 0 [some (.ref a0), none, none, some (.int x3)] [] h H

def kX4_reckon : List xm_I := [
  i_0 0 (.aload_n 0) 1 none,
  i_0 1 (.aload_n 1) 1 none,
  i_m 2 (.invokevirtual 97) 3 none 1 4 [550, 551, 552, 110, 553] 0 sX4_weigh,
  i_0 5 (.aload_n 0) 1 none,
  i_0 6 (.aload_n 1) 1 none,
  i_0 7 (.aload_n 1) 1 none,
  i_m 8 (.invokevirtual 100) 3 none 0 7 [557, 558, 559, 109, 560] 0 sX7_ears,
  i_m 11 (.invokevirtual 103) 3 none 2 4 [562, 563, 564, 110, 565] 0 sX4_shareOut,
  i_0 14 (.return_) 1 none]
set_option maxRecDepth 100000 in
theorem oX4_reckon : xm_ok sX4_reckon sX4_reckon.1.cls kX4_reckon = true := by decide +kernel
set_option maxRecDepth 100000 in
set_option maxHeartbeats 4000000 in
theorem xX4_reckon_0 {K : Nat} {h : xm_H} {P : Option Value → xm_H → Prop} {a0 : Nat} {a1 : Nat} (H :
    xm_Call K sX4_weigh 4 [.ref a0, .ref a1] h (xm_pv fun h1 =>
      xm_Call K sX7_ears 7 [.ref a1] h1 (xm_pi fun c3 h2 =>
        xm_Call K sX4_shareOut 4 [.ref a0, .ref a1, .int c3] h2 (xm_pv fun h4 =>
          P none h4)))) :
    xm_L K sX4_reckon kX4_reckon 0 [some (.ref a0), some (.ref a1)] [] h P :=
  xm_run (fun _ _ h => h) oX4_reckon 10 0 0 0 [some (.ref a0), some (.ref a1)] [] h H
set_option maxRecDepth 100000 in
theorem eX4_reckon {K K' : Nat} (hK : K < K') {h : xm_H} {P : Option Value → xm_H → Prop} {a0 : Nat} {a1 : Nat} (hr : ∃ fs, h[a0]? = some (.inr (4, fs))) (H :
    xm_Call K sX4_weigh 4 [.ref a0, .ref a1] h (xm_pv fun h1 =>
      xm_Call K sX7_ears 7 [.ref a1] h1 (xm_pi fun c3 h2 =>
        xm_Call K sX4_shareOut 4 [.ref a0, .ref a1, .int c3] h2 (xm_pv fun h4 =>
          P none h4)))) :
    xm_Call K' sX4_reckon 4 [.ref a0, .ref a1] h P :=
  xm_call_of (C := kX4_reckon) hK (by decide +kernel) rfl (Nat.le_of_ble_eq_true rfl) (Or.inr ⟨a0, hr.choose, rfl, hr.choose_spec⟩) (xX4_reckon_0 H)

def kX4_shareOf : List xm_I := [
  i_0 0 (.iload_n 1) 1 none,
  i_j 1 (.ifCond .lt 9) 3 none 5,
  i_0 4 (.iload_n 1) 1 none,
  i_v 5 (.bipush 8) 2 none 8 [],
  i_j 7 (.if_icmp .lt 7) 3 none 7,
  i_v 10 (.iconst 0) 1 none 0 [],
  i_j 11 (.goto 9) 3 none 11,
  i_0 14 (.aload_n 0) 1 none,
  i_f 15 (.getfield 28) 3 none 4 4 [176] 1,
  i_0 18 (.iload_n 1) 1 none,
  i_0 19 (.iaload) 1 none,
  i_0 20 (.ireturn) 1 none]
set_option maxRecDepth 100000 in
theorem oX4_shareOf : xm_ok sX4_shareOf sX4_shareOf.1.cls kX4_shareOf = true := by decide +kernel
set_option maxRecDepth 100000 in
set_option maxHeartbeats 4000000 in
theorem xX4_shareOf_0 {K : Nat} {h : xm_H} {P : Option Value → xm_H → Prop} {a0 : Nat} {x1 : Int32} (H :
    (if x1 < 0 then
      P (some (.int (0 : Int32))) h
    else
      (if x1 < (8 : Int32) then
        ∃ q1, xm_fld h a0 4 4 = some (.ref q1) ∧ /- shares -/
        ∃ e2, xm_ld xm_st h 0 q1 x1 = some e2 ∧
        P (some (.int e2)) h
      else
        P (some (.int (0 : Int32))) h))) :
    xm_L K sX4_shareOf kX4_shareOf 0 [some (.ref a0), some (.int x1)] [] h P :=
  xm_run (fun _ _ h => h) oX4_shareOf 11 0 0 0 [some (.ref a0), some (.int x1)] [] h H
set_option maxRecDepth 100000 in
theorem eX4_shareOf {K K' : Nat} (hK : K < K') {h : xm_H} {P : Option Value → xm_H → Prop} {a0 : Nat} {x1 : Int32} (hr : ∃ fs, h[a0]? = some (.inr (4, fs))) (H :
    (if x1 < 0 then
      P (some (.int (0 : Int32))) h
    else
      (if x1 < (8 : Int32) then
        ∃ q1, xm_fld h a0 4 4 = some (.ref q1) ∧ /- shares -/
        ∃ e2, xm_ld xm_st h 0 q1 x1 = some e2 ∧
        P (some (.int e2)) h
      else
        P (some (.int (0 : Int32))) h))) :
    xm_Call K' sX4_shareOf 4 [.ref a0, .int x1] h P :=
  xm_call_of (C := kX4_shareOf) hK (by decide +kernel) rfl (Nat.le_of_ble_eq_true rfl) (Or.inr ⟨a0, hr.choose, rfl, hr.choose_spec⟩) (xX4_shareOf_0 H)

def kX4_worthOf : List xm_I := [
  i_0 0 (.aload_n 0) 1 none,
  i_0 1 (.aload_n 1) 1 none,
  i_0 2 (.iload_n 2) 1 none,
  i_0 3 (.aload_n 1) 1 none,
  i_0 4 (.iload_n 2) 1 none,
  i_v 5 (.iconst 3) 1 none 3 [],
  i_m 6 (.invokevirtual 55) 3 none 2 7 [508, 509, 510, 109, 511] 0 sX7_get,
  i_m 9 (.invokevirtual 107) 3 none 3 4 [579, 580, 581, 110, 582] 0 sX4_gainOf,
  i_0 12 (.aload_n 0) 1 none,
  i_0 13 (.iload_n 2) 1 none,
  i_m 14 (.invokevirtual 111) 3 none 1 4 [583, 584, 585, 110, 586] 0 sX4_shareOf,
  i_0 17 (.isub) 1 none,
  i_0 18 (.ireturn) 1 none]
set_option maxRecDepth 100000 in
theorem oX4_worthOf : xm_ok sX4_worthOf sX4_worthOf.1.cls kX4_worthOf = true := by decide +kernel
set_option maxRecDepth 100000 in
set_option maxHeartbeats 4000000 in
theorem xX4_worthOf_0 {K : Nat} {h : xm_H} {P : Option Value → xm_H → Prop} {a0 : Nat} {a1 : Nat} {x2 : Int32} (H :
    xm_Call K sX7_get 7 [.ref a1, .int x2, .int (3 : Int32)] h (xm_pi fun c2 h1 =>
      xm_Call K sX4_gainOf 4 [.ref a0, .ref a1, .int x2, .int c2] h1 (xm_pi fun c4 h3 =>
        xm_Call K sX4_shareOf 4 [.ref a0, .int x2] h3 (xm_pi fun c6 h5 =>
          P (some (.int (c4 - c6))) h5)))) :
    xm_L K sX4_worthOf kX4_worthOf 0 [some (.ref a0), some (.ref a1), some (.int x2)] [] h P :=
  xm_run (fun _ _ h => h) oX4_worthOf 14 0 0 0 [some (.ref a0), some (.ref a1), some (.int x2)] [] h H
set_option maxRecDepth 100000 in
theorem eX4_worthOf {K K' : Nat} (hK : K < K') {h : xm_H} {P : Option Value → xm_H → Prop} {a0 : Nat} {a1 : Nat} {x2 : Int32} (hr : ∃ fs, h[a0]? = some (.inr (4, fs))) (H :
    xm_Call K sX7_get 7 [.ref a1, .int x2, .int (3 : Int32)] h (xm_pi fun c2 h1 =>
      xm_Call K sX4_gainOf 4 [.ref a0, .ref a1, .int x2, .int c2] h1 (xm_pi fun c4 h3 =>
        xm_Call K sX4_shareOf 4 [.ref a0, .int x2] h3 (xm_pi fun c6 h5 =>
          P (some (.int (c4 - c6))) h5)))) :
    xm_Call K' sX4_worthOf 4 [.ref a0, .ref a1, .int x2] h P :=
  xm_call_of (C := kX4_worthOf) hK (by decide +kernel) rfl (Nat.le_of_ble_eq_true rfl) (Or.inr ⟨a0, hr.choose, rfl, hr.choose_spec⟩) (xX4_worthOf_0 H)

def kX4_gainOf : List xm_I := [
  i_0 0 (.iload_n 3) 1 none,
  i_m 1 (.invokestatic 63) 3 none 1 99 [515, 516, 110, 517] 0 sX4_isGone,
  i_j 4 (.ifCond .eq 22) 3 none 15,
  i_v 7 (.bipush 10) 2 none 10 [],
  i_0 9 (.aload_n 1) 1 none,
  i_0 10 (.iload_n 2) 1 none,
  i_v 11 (.iconst 0) 1 none 0 [],
  i_m 12 (.invokevirtual 55) 3 none 2 7 [508, 509, 510, 109, 511] 0 sX7_get,
  i_0 15 (.imul) 1 none,
  i_0 16 (.aload_n 1) 1 none,
  i_m 17 (.invokevirtual 66) 3 none 0 7 [522, 523, 524, 109, 525] 0 sX7_snow,
  i_v 20 (.iconst 2) 1 none 2 [],
  i_0 21 (.idiv) 1 none,
  i_0 22 (.isub) 1 none,
  i_j 23 (.goto 4) 3 none 16,
  i_v 26 (.iconst 0) 1 none 0 [],
  i_0 27 (.istore 4) 2 none,
  i_0 29 (.iload_n 3) 1 none,
  i_m 30 (.invokestatic 59) 3 none 1 99 [512, 513, 110, 514] 0 sX4_isSaid,
  i_j 33 (.ifCond .eq 16) 3 none 27,
  i_0 36 (.iload 4) 2 none,
  i_0 38 (.aload_n 1) 1 none,
  i_v 39 (.iconst 0) 1 none 0 [],
  i_v 40 (.bipush 10) 2 none 10 [],
  i_m 42 (.invokevirtual 55) 3 none 2 7 [508, 509, 510, 109, 511] 0 sX7_get,
  i_0 45 (.iadd) 1 none,
  i_j 46 (.goto 5) 3 none 28,
  i_0 49 (.iload 4) 2 none,
  i_0 51 (.ireturn) 1 none]
set_option maxRecDepth 100000 in
theorem oX4_gainOf : xm_ok sX4_gainOf sX4_gainOf.1.cls kX4_gainOf = true := by decide +kernel
set_option maxRecDepth 100000 in
set_option maxHeartbeats 4000000 in
theorem xX4_gainOf_0 {K : Nat} {h : xm_H} {P : Option Value → xm_H → Prop} {a0 : Nat} {a1 : Nat} {x2 : Int32} {x3 : Int32} (H :
    xm_Call K sX4_isGone 99 [.int x3] h (xm_pi fun c2 h1 =>
      (if c2 = 0 then
        xm_Call K sX4_isSaid 99 [.int x3] h1 (xm_pi fun c4 h3 =>
          (if c4 = 0 then
            P (some (.int (0 : Int32))) h3
          else
            xm_Call K sX7_get 7 [.ref a1, .int (0 : Int32), .int (10 : Int32)] h3 (xm_pi fun c6 h5 =>
              P (some (.int ((0 : Int32) + c6))) h5)))
      else
        xm_Call K sX7_get 7 [.ref a1, .int x2, .int (0 : Int32)] h1 (xm_pi fun c8 h7 =>
          xm_Call K sX7_snow 7 [.ref a1] h7 (xm_pi fun c10 h9 =>
            ¬ (2 : Int32) = 0 ∧
            xm_Call K sX4_isSaid 99 [.int x3] h9 (xm_pi fun c12 h11 =>
              (if c12 = 0 then
                P (some (.int (((10 : Int32) * c8) - (c10 / (2 : Int32))))) h11
              else
                xm_Call K sX7_get 7 [.ref a1, .int (0 : Int32), .int (10 : Int32)] h11 (xm_pi fun c14 h13 =>
                  P (some (.int ((((10 : Int32) * c8) - (c10 / (2 : Int32))) + c14))) h13)))))))) :
    xm_L K sX4_gainOf kX4_gainOf 0 [some (.ref a0), some (.ref a1), some (.int x2), some (.int x3), none] [] h P :=
  xm_run (fun _ _ h => h) oX4_gainOf 28 0 0 0 [some (.ref a0), some (.ref a1), some (.int x2), some (.int x3), none] [] h H
set_option maxRecDepth 100000 in
theorem eX4_gainOf {K K' : Nat} (hK : K < K') {h : xm_H} {P : Option Value → xm_H → Prop} {a0 : Nat} {a1 : Nat} {x2 : Int32} {x3 : Int32} (hr : ∃ fs, h[a0]? = some (.inr (4, fs))) (H :
    xm_Call K sX4_isGone 99 [.int x3] h (xm_pi fun c2 h1 =>
      (if c2 = 0 then
        xm_Call K sX4_isSaid 99 [.int x3] h1 (xm_pi fun c4 h3 =>
          (if c4 = 0 then
            P (some (.int (0 : Int32))) h3
          else
            xm_Call K sX7_get 7 [.ref a1, .int (0 : Int32), .int (10 : Int32)] h3 (xm_pi fun c6 h5 =>
              P (some (.int ((0 : Int32) + c6))) h5)))
      else
        xm_Call K sX7_get 7 [.ref a1, .int x2, .int (0 : Int32)] h1 (xm_pi fun c8 h7 =>
          xm_Call K sX7_snow 7 [.ref a1] h7 (xm_pi fun c10 h9 =>
            ¬ (2 : Int32) = 0 ∧
            xm_Call K sX4_isSaid 99 [.int x3] h9 (xm_pi fun c12 h11 =>
              (if c12 = 0 then
                P (some (.int (((10 : Int32) * c8) - (c10 / (2 : Int32))))) h11
              else
                xm_Call K sX7_get 7 [.ref a1, .int (0 : Int32), .int (10 : Int32)] h11 (xm_pi fun c14 h13 =>
                  P (some (.int ((((10 : Int32) * c8) - (c10 / (2 : Int32))) + c14))) h13)))))))) :
    xm_Call K' sX4_gainOf 4 [.ref a0, .ref a1, .int x2, .int x3] h P :=
  xm_call_of (C := kX4_gainOf) hK (by decide +kernel) rfl (Nat.le_of_ble_eq_true rfl) (Or.inr ⟨a0, hr.choose, rfl, hr.choose_spec⟩) (xX4_gainOf_0 H)

def kX4_endYear : List xm_I := [
  i_0 0 (.aload_n 0) 1 none,
  i_0 1 (.aload_n 1) 1 none,
  i_m 2 (.invokevirtual 97) 3 none 1 4 [550, 551, 552, 110, 553] 0 sX4_weigh,
  i_0 5 (.aload_n 0) 1 none,
  i_0 6 (.aload_n 1) 1 none,
  i_0 7 (.aload_n 1) 1 none,
  i_m 8 (.invokevirtual 100) 3 none 0 7 [557, 558, 559, 109, 560] 0 sX7_ears,
  i_m 11 (.invokevirtual 103) 3 none 2 4 [562, 563, 564, 110, 565] 0 sX4_shareOut,
  i_0 14 (.aload_n 0) 1 none,
  i_v 15 (.iconst 0) 1 none 0 [],
  i_f 16 (.putfield 47) 3 none 4 10 [186] 0,
  i_0 19 (.aload_n 1) 1 none,
  i_m 20 (.invokevirtual 66) 3 none 0 7 [522, 523, 524, 109, 525] 0 sX7_snow,
  i_v 23 (.iconst 2) 1 none 2 [],
  i_0 24 (.idiv) 1 none,
  i_0 25 (.istore_n 2) 1 none,
  i_v 26 (.iconst 0) 1 none 0 [],
  i_0 27 (.istore_n 3) 1 none,
  i_0 28 (.iload_n 3) 1 (some [true, true, true, true, false, false]),
  i_0 29 (.aload_n 1) 1 none,
  i_f 30 (.getfield 50) 3 none 7 1 [141] 0,
  i_j 33 (.if_icmp .ge 111) 3 none 84,
  i_0 36 (.aload_n 1) 1 none,
  i_0 37 (.iload_n 3) 1 none,
  i_v 38 (.iconst 1) 1 none 1 [],
  i_m 39 (.invokevirtual 55) 3 none 2 7 [508, 509, 510, 109, 511] 0 sX7_get,
  i_0 42 (.aload_n 0) 1 none,
  i_0 43 (.iload_n 3) 1 none,
  i_m 44 (.invokevirtual 111) 3 none 1 4 [583, 584, 585, 110, 586] 0 sX4_shareOf,
  i_0 47 (.isub) 1 none,
  i_0 48 (.aload_n 1) 1 none,
  i_0 49 (.iload_n 3) 1 none,
  i_v 50 (.iconst 3) 1 none 3 [],
  i_m 51 (.invokevirtual 55) 3 none 2 7 [508, 509, 510, 109, 511] 0 sX7_get,
  i_m 54 (.invokestatic 63) 3 none 1 99 [515, 516, 110, 517] 0 sX4_isGone,
  i_j 57 (.ifCond .eq 7) 3 none 38,
  i_0 60 (.iload_n 2) 1 none,
  i_j 61 (.goto 4) 3 none 39,
  i_v 64 (.iconst 0) 1 none 0 [],
  i_0 65 (.isub) 1 none,
  i_0 66 (.istore 4) 2 none,
  i_0 68 (.aload_n 0) 1 none,
  i_0 69 (.dup) 1 none,
  i_f 70 (.getfield 47) 3 none 4 10 [186] 0,
  i_v 73 (.iconst 0) 1 none 0 [],
  i_0 74 (.iload 4) 2 none,
  i_0 76 (.ineg) 1 none,
  i_m 77 (.invokestatic 83) 3 none 2 99 [541, 493, 119, 494] 0 sJ9_max_7cf53,
  i_0 80 (.iadd) 1 none,
  i_f 81 (.putfield 47) 3 none 4 10 [186] 0,
  i_v 84 (.iconst 0) 1 none 0 [],
  i_0 85 (.iload 4) 2 none,
  i_m 87 (.invokestatic 83) 3 none 2 99 [541, 493, 119, 494] 0 sJ9_max_7cf53,
  i_0 90 (.aload_n 1) 1 none,
  i_0 91 (.iload_n 3) 1 none,
  i_v 92 (.bipush 6) 2 none 6 [],
  i_m 94 (.invokevirtual 55) 3 none 2 7 [508, 509, 510, 109, 511] 0 sX7_get,
  i_0 97 (.iadd) 1 none,
  i_0 98 (.istore 5) 2 none,
  i_0 100 (.aload_n 1) 1 none,
  i_0 101 (.iload_n 3) 1 none,
  i_v 102 (.iconst 1) 1 none 1 [],
  i_f 103 (.getstatic 115) 3 none 1 0 [663] 1,
  i_v 106 (.iconst 1) 1 none 1 [],
  i_0 107 (.iaload) 1 none,
  i_0 108 (.iload 5) 2 none,
  i_m 110 (.invokestatic 78) 3 none 2 99 [540, 490, 119, 491] 0 sJ9_min_7cf53,
  i_m 113 (.invokevirtual 118) 3 none 3 7 [664, 385, 386, 109, 387] 0 sX7_set,
  i_0 116 (.aload_n 1) 1 none,
  i_0 117 (.iload_n 3) 1 none,
  i_v 118 (.iconst 2) 1 none 2 [],
  i_f 119 (.getstatic 115) 3 none 1 0 [663] 1,
  i_v 122 (.iconst 2) 1 none 2 [],
  i_0 123 (.iaload) 1 none,
  i_0 124 (.aload_n 1) 1 none,
  i_0 125 (.iload_n 3) 1 none,
  i_v 126 (.iconst 2) 1 none 2 [],
  i_m 127 (.invokevirtual 55) 3 none 2 7 [508, 509, 510, 109, 511] 0 sX7_get,
  i_v 130 (.iconst 1) 1 none 1 [],
  i_0 131 (.iadd) 1 none,
  i_m 132 (.invokestatic 78) 3 none 2 99 [540, 490, 119, 491] 0 sJ9_min_7cf53,
  i_m 135 (.invokevirtual 118) 3 none 3 7 [664, 385, 386, 109, 387] 0 sX7_set,
  i_v 138 (.iinc 3 1) 3 none 1 [],
  i_j 141 (.goto (-113)) 3 none 18,
  i_0 144 (.aload_n 1) 1 none,
  i_v 145 (.iconst 0) 1 none 0 [],
  i_v 146 (.bipush 8) 2 none 8 [],
  i_f 148 (.getstatic 115) 3 none 1 0 [663] 1,
  i_v 151 (.bipush 8) 2 none 8 [],
  i_0 153 (.iaload) 1 none,
  i_0 154 (.aload_n 1) 1 none,
  i_v 155 (.iconst 0) 1 none 0 [],
  i_v 156 (.bipush 8) 2 none 8 [],
  i_m 158 (.invokevirtual 55) 3 none 2 7 [508, 509, 510, 109, 511] 0 sX7_get,
  i_v 161 (.iconst 1) 1 none 1 [],
  i_0 162 (.iadd) 1 none,
  i_m 163 (.invokestatic 78) 3 none 2 99 [540, 490, 119, 491] 0 sJ9_min_7cf53,
  i_m 166 (.invokevirtual 118) 3 none 3 7 [664, 385, 386, 109, 387] 0 sX7_set,
  i_0 169 (.return_) 1 none]
set_option maxRecDepth 100000 in
theorem oX4_endYear : xm_ok sX4_endYear sX4_endYear.1.cls kX4_endYear = true := by decide +kernel
set_option maxRecDepth 100000 in
set_option maxHeartbeats 4000000 in
theorem xX4_endYear_0 {K : Nat} {h : xm_H} {P : Option Value → xm_H → Prop} {a0 : Nat} {a1 : Nat} (H :
    xm_Call K sX4_weigh 4 [.ref a0, .ref a1] h (xm_pv fun h1 =>
      xm_Call K sX7_ears 7 [.ref a1] h1 (xm_pi fun c3 h2 =>
        xm_Call K sX4_shareOut 4 [.ref a0, .ref a1, .int c3] h2 (xm_pv fun h4 =>
          ∃ h5, xm_put h4 a0 4 10 (.int (0 : Int32)) = some h5 ∧ /- lacking -/
          xm_Call K sX7_snow 7 [.ref a1] h5 (xm_pi fun c7 h6 =>
            ¬ (2 : Int32) = 0 ∧
            xm_L K sX4_endYear kX4_endYear 18 [some (.ref a0), some (.ref a1), some (.int (c7 / (2 : Int32))), some (.int (0 : Int32)), none, none] [] h6 P))))) :
    xm_L K sX4_endYear kX4_endYear 0 [some (.ref a0), some (.ref a1), none, none, none, none] [] h P :=
  xm_run (fun _ _ h => h) oX4_endYear 19 0 0 0 [some (.ref a0), some (.ref a1), none, none, none, none] [] h H
set_option maxRecDepth 100000 in
theorem eX4_endYear {K K' : Nat} (hK : K < K') {h : xm_H} {P : Option Value → xm_H → Prop} {a0 : Nat} {a1 : Nat} (hr : ∃ fs, h[a0]? = some (.inr (4, fs))) (H :
    xm_Call K sX4_weigh 4 [.ref a0, .ref a1] h (xm_pv fun h1 =>
      xm_Call K sX7_ears 7 [.ref a1] h1 (xm_pi fun c3 h2 =>
        xm_Call K sX4_shareOut 4 [.ref a0, .ref a1, .int c3] h2 (xm_pv fun h4 =>
          ∃ h5, xm_put h4 a0 4 10 (.int (0 : Int32)) = some h5 ∧ /- lacking -/
          xm_Call K sX7_snow 7 [.ref a1] h5 (xm_pi fun c7 h6 =>
            ¬ (2 : Int32) = 0 ∧
            xm_L K sX4_endYear kX4_endYear 18 [some (.ref a0), some (.ref a1), some (.int (c7 / (2 : Int32))), some (.int (0 : Int32)), none, none] [] h6 P))))) :
    xm_Call K' sX4_endYear 4 [.ref a0, .ref a1] h P :=
  xm_call_of (C := kX4_endYear) hK (by decide +kernel) rfl (Nat.le_of_ble_eq_true rfl) (Or.inr ⟨a0, hr.choose, rfl, hr.choose_spec⟩) (xX4_endYear_0 H)

set_option maxRecDepth 100000 in
set_option maxHeartbeats 4000000 in
theorem xX4_endYear_18 {K : Nat} {h : xm_H} {P : Option Value → xm_H → Prop} {a0 : Nat} {a1 : Nat} {x2 : Int32} {x3 : Int32} (H :
    ∃ f1, xm_fld h a1 7 1 = some (.int f1) ∧ /- people -/
    (if x3 < f1 then
      xm_Call K sX7_get 7 [.ref a1, .int x3, .int (1 : Int32)] h (xm_pi fun c3 h2 =>
        xm_Call K sX4_shareOf 4 [.ref a0, .int x3] h2 (xm_pi fun c5 h4 =>
          xm_Call K sX7_get 7 [.ref a1, .int x3, .int (3 : Int32)] h4 (xm_pi fun c7 h6 =>
            xm_Call K sX4_isGone 99 [.int c7] h6 (xm_pi fun c9 h8 =>
              (if c9 = 0 then
                ∃ f10, xm_fld h8 a0 4 10 = some (.int f10) ∧ /- lacking -/
                xm_Call K sJ9_max_7cf53 99 [.int (0 : Int32), .int (-((c3 - c5) - (0 : Int32)))] h8 (xm_pi fun c12 h11 =>
                  ∃ h13, xm_put h11 a0 4 10 (.int (f10 + c12)) = some h13 ∧ /- lacking -/
                  xm_Call K sJ9_max_7cf53 99 [.int (0 : Int32), .int ((c3 - c5) - (0 : Int32))] h13 (xm_pi fun c15 h14 =>
                    xm_Call K sX7_get 7 [.ref a1, .int x3, .int (6 : Int32)] h14 (xm_pi fun c17 h16 =>
                      ∃ e18, xm_ld xm_st h16 0 (1000 + 1) (1 : Int32) = some e18 ∧
                      xm_Call K sJ9_min_7cf53 99 [.int e18, .int (c15 + c17)] h16 (xm_pi fun c20 h19 =>
                        xm_Call K sX7_set 7 [.ref a1, .int x3, .int (1 : Int32), .int c20] h19 (xm_pv fun h21 =>
                          ∃ e22, xm_ld xm_st h21 0 (1000 + 1) (2 : Int32) = some e22 ∧
                          xm_Call K sX7_get 7 [.ref a1, .int x3, .int (2 : Int32)] h21 (xm_pi fun c24 h23 =>
                            xm_Call K sJ9_min_7cf53 99 [.int e22, .int (c24 + (1 : Int32))] h23 (xm_pi fun c26 h25 =>
                              xm_Call K sX7_set 7 [.ref a1, .int x3, .int (2 : Int32), .int c26] h25 (xm_pv fun h27 =>
                                xm_L K sX4_endYear kX4_endYear 18 [some (.ref a0), some (.ref a1), some (.int x2), some (.int (x3 + (1 : Int32))), none, none] [] h27 P))))))))
              else
                ∃ f28, xm_fld h8 a0 4 10 = some (.int f28) ∧ /- lacking -/
                xm_Call K sJ9_max_7cf53 99 [.int (0 : Int32), .int (-((c3 - c5) - x2))] h8 (xm_pi fun c30 h29 =>
                  ∃ h31, xm_put h29 a0 4 10 (.int (f28 + c30)) = some h31 ∧ /- lacking -/
                  xm_Call K sJ9_max_7cf53 99 [.int (0 : Int32), .int ((c3 - c5) - x2)] h31 (xm_pi fun c33 h32 =>
                    xm_Call K sX7_get 7 [.ref a1, .int x3, .int (6 : Int32)] h32 (xm_pi fun c35 h34 =>
                      ∃ e36, xm_ld xm_st h34 0 (1000 + 1) (1 : Int32) = some e36 ∧
                      xm_Call K sJ9_min_7cf53 99 [.int e36, .int (c33 + c35)] h34 (xm_pi fun c38 h37 =>
                        xm_Call K sX7_set 7 [.ref a1, .int x3, .int (1 : Int32), .int c38] h37 (xm_pv fun h39 =>
                          ∃ e40, xm_ld xm_st h39 0 (1000 + 1) (2 : Int32) = some e40 ∧
                          xm_Call K sX7_get 7 [.ref a1, .int x3, .int (2 : Int32)] h39 (xm_pi fun c42 h41 =>
                            xm_Call K sJ9_min_7cf53 99 [.int e40, .int (c42 + (1 : Int32))] h41 (xm_pi fun c44 h43 =>
                              xm_Call K sX7_set 7 [.ref a1, .int x3, .int (2 : Int32), .int c44] h43 (xm_pv fun h45 =>
                                xm_L K sX4_endYear kX4_endYear 18 [some (.ref a0), some (.ref a1), some (.int x2), some (.int (x3 + (1 : Int32))), none, none] [] h45 P)))))))))))))
    else
      ∃ e46, xm_ld xm_st h 0 (1000 + 1) (8 : Int32) = some e46 ∧
      xm_Call K sX7_get 7 [.ref a1, .int (0 : Int32), .int (8 : Int32)] h (xm_pi fun c48 h47 =>
        xm_Call K sJ9_min_7cf53 99 [.int e46, .int (c48 + (1 : Int32))] h47 (xm_pi fun c50 h49 =>
          xm_Call K sX7_set 7 [.ref a1, .int (0 : Int32), .int (8 : Int32), .int c50] h49 (xm_pv fun h51 =>
            P none h51))))) :
    xm_L K sX4_endYear kX4_endYear 18 [some (.ref a0), some (.ref a1), some (.int x2), some (.int x3), none, none] [] h P :=
  xm_run (fun _ _ h => h) oX4_endYear 66 18 0 0 [some (.ref a0), some (.ref a1), some (.int x2), some (.int x3), none, none] [] h H

