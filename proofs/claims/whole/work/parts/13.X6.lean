def kX6_init : List xm_I := [
  i_0 0 (.aload_n 0) 1 none,
  i_f 1 (.invokespecial 3) 3 none 0 0 [159, 127, 128] 2,
  i_0 4 (.aload_n 0) 1 none,
  i_v 5 (.sipush 128) 3 none 128 [],
  i_f 8 (.newarray .int) 2 none 0 128 [147] 128,
  i_f 10 (.putfield 9) 3 none 6 0 [160] 1,
  i_0 13 (.aload_n 0) 1 none,
  i_v 14 (.iconst 0) 1 none 0 [],
  i_f 15 (.putfield 15) 3 none 6 1 [161] 0,
  i_0 18 (.aload_n 0) 1 none,
  i_v 19 (.sipush 128) 3 none 128 [],
  i_f 22 (.newarray .int) 2 none 0 128 [147] 128,
  i_f 24 (.putfield 19) 3 none 6 2 [162] 1,
  i_0 27 (.return_) 1 none]
set_option maxRecDepth 100000 in
theorem oX6_init : xm_ok sX6_init sX6_init.1.cls kX6_init = true := by decide +kernel
set_option maxRecDepth 100000 in
set_option maxHeartbeats 4000000 in
theorem xX6_init_0 {K : Nat} {h : xm_H} {P : Option Value → xm_H → Prop} {a0 : Nat} (H :
    (0 + 1 ≤ 2 ∧ 0 + 128 ≤ 256) ∧ xm_va h [some (.ref a0)] [.ref a0] 1 ∧
    ∃ h1, xm_put (h ++ [xm_za 0 128]) a0 6 0 (.ref (List.length h)) = some h1 ∧ /- code -/
    ∃ h2, xm_put h1 a0 6 1 (.int (0 : Int32)) = some h2 ∧ /- length -/
    (1 + 1 ≤ 2 ∧ 128 + 128 ≤ 256) ∧ xm_va h2 [some (.ref a0)] [.ref a0] 1 ∧
    ∃ h3, xm_put (h2 ++ [xm_za 0 128]) a0 6 2 (.ref (List.length h2)) = some h3 ∧ /- stack -/
    P none h3) :
    xm_At xm_st K sX6_init sX6_init.1.cls kX6_init 0 0 0 [some (.ref a0)] [] h P :=
  xm_run (fun _ _ h => h) oX6_init 15 0 0 0 [some (.ref a0)] [] h H
set_option maxRecDepth 100000 in
theorem eX6_init {K K' : Nat} (hK : K < K') {h : xm_H} {P : Option Value → xm_H → Prop} {a0 : Nat} (hr : ∃ fs, h[a0]? = some (.inr (6, fs))) (H :
    (0 + 1 ≤ 2 ∧ 0 + 128 ≤ 256) ∧ xm_va h [some (.ref a0)] [.ref a0] 1 ∧
    ∃ h1, xm_put (h ++ [xm_za 0 128]) a0 6 0 (.ref (List.length h)) = some h1 ∧ /- code -/
    ∃ h2, xm_put h1 a0 6 1 (.int (0 : Int32)) = some h2 ∧ /- length -/
    (1 + 1 ≤ 2 ∧ 128 + 128 ≤ 256) ∧ xm_va h2 [some (.ref a0)] [.ref a0] 1 ∧
    ∃ h3, xm_put (h2 ++ [xm_za 0 128]) a0 6 2 (.ref (List.length h2)) = some h3 ∧ /- stack -/
    P none h3) :
    xm_Call K' sX6_init 6 [.ref a0] h P :=
  xm_call_of (C := kX6_init) hK (by decide +kernel) rfl (Nat.le_of_ble_eq_true rfl) (Or.inr ⟨a0, hr.choose, rfl, hr.choose_spec⟩) (xX6_init_0 H)

def kX6_isEmpty : List xm_I := [
  i_0 0 (.aload_n 0) 1 none,
  i_f 1 (.getfield 15) 3 none 6 1 [161] 0,
  i_j 4 (.ifCond .ne 7) 3 none 5,
  i_v 7 (.iconst 1) 1 none 1 [],
  i_j 8 (.goto 4) 3 none 6,
  i_v 11 (.iconst 0) 1 none 0 [],
  i_0 12 (.ireturn) 1 none]
set_option maxRecDepth 100000 in
theorem oX6_isEmpty : xm_ok sX6_isEmpty sX6_isEmpty.1.cls kX6_isEmpty = true := by decide +kernel
set_option maxRecDepth 100000 in
set_option maxHeartbeats 4000000 in
theorem xX6_isEmpty_0 {K : Nat} {h : xm_H} {P : Option Value → xm_H → Prop} {a0 : Nat} (H :
    ∃ f1, xm_fld h a0 6 1 = some (.int f1) ∧ /- length -/
    (if f1 = 0 then
      P (some (.int (1 : Int32))) h
    else
      P (some (.int (0 : Int32))) h)) :
    xm_L K sX6_isEmpty kX6_isEmpty 0 [some (.ref a0)] [] h P :=
  xm_run (fun _ _ h => h) oX6_isEmpty 7 0 0 0 [some (.ref a0)] [] h H
set_option maxRecDepth 100000 in
theorem eX6_isEmpty {K K' : Nat} (hK : K < K') {h : xm_H} {P : Option Value → xm_H → Prop} {a0 : Nat} (hr : ∃ fs, h[a0]? = some (.inr (6, fs))) (H :
    ∃ f1, xm_fld h a0 6 1 = some (.int f1) ∧ /- length -/
    (if f1 = 0 then
      P (some (.int (1 : Int32))) h
    else
      P (some (.int (0 : Int32))) h)) :
    xm_Call K' sX6_isEmpty 6 [.ref a0] h P :=
  xm_call_of (C := kX6_isEmpty) hK (by decide +kernel) rfl (Nat.le_of_ble_eq_true rfl) (Or.inr ⟨a0, hr.choose, rfl, hr.choose_spec⟩) (xX6_isEmpty_0 H)

def kX6_become : List xm_I := [
  i_0 0 (.aload_n 0) 1 none,
  i_v 1 (.iconst 0) 1 none 0 [],
  i_0 2 (.iload_n 2) 1 none,
  i_0 3 (.aload_n 1) 1 none,
  i_0 4 (.arraylength) 1 none,
  i_v 5 (.sipush 128) 3 none 128 [],
  i_m 8 (.invokestatic 22) 3 none 2 99 [489, 490, 119, 491] 0 sJ9_min_7cf53,
  i_m 11 (.invokestatic 22) 3 none 2 99 [489, 490, 119, 491] 0 sJ9_min_7cf53,
  i_m 14 (.invokestatic 28) 3 none 2 99 [492, 493, 119, 494] 0 sJ9_max_7cf53,
  i_f 17 (.putfield 15) 3 none 6 1 [161] 0,
  i_0 20 (.aload_n 1) 1 none,
  i_v 21 (.iconst 0) 1 none 0 [],
  i_0 22 (.aload_n 0) 1 none,
  i_f 23 (.getfield 9) 3 none 6 0 [160] 1,
  i_v 26 (.iconst 0) 1 none 0 [],
  i_0 27 (.aload_n 0) 1 none,
  i_f 28 (.getfield 15) 3 none 6 1 [161] 0,
  i_f 31 (.invokestatic 31) 3 none 0 0 [495, 427, 426, 118] 3,
  i_0 34 (.return_) 1 none]
set_option maxRecDepth 100000 in
theorem oX6_become : xm_ok sX6_become sX6_become.1.cls kX6_become = true := by decide +kernel
set_option maxRecDepth 100000 in
set_option maxHeartbeats 4000000 in
theorem xX6_become_0 {K : Nat} {h : xm_H} {P : Option Value → xm_H → Prop} {a0 : Nat} {a1 : Nat} {x2 : Int32} (H :
    ∃ n1, xm_len xm_st h a1 = some n1 ∧
    xm_Call K sJ9_min_7cf53 99 [.int n1, .int (128 : Int32)] h (xm_pi fun c3 h2 =>
      xm_Call K sJ9_min_7cf53 99 [.int x2, .int c3] h2 (xm_pi fun c5 h4 =>
        xm_Call K sJ9_max_7cf53 99 [.int (0 : Int32), .int c5] h4 (xm_pi fun c7 h6 =>
          ∃ h8, xm_put h6 a0 6 1 (.int c7) = some h8 ∧ /- length -/
          ∃ q9, xm_fld h8 a0 6 0 = some (.ref q9) ∧ /- code -/
          ∃ f10, xm_fld h8 a0 6 1 = some (.int f10) ∧ /- length -/
          ∃ h11, xm_cpI h8 a1 (0 : Int32) q9 (0 : Int32) f10 = some h11 ∧
          P none h11)))) :
    xm_L K sX6_become kX6_become 0 [some (.ref a0), some (.ref a1), some (.int x2)] [] h P :=
  xm_run (fun _ _ h => h) oX6_become 20 0 0 0 [some (.ref a0), some (.ref a1), some (.int x2)] [] h H
set_option maxRecDepth 100000 in
theorem eX6_become {K K' : Nat} (hK : K < K') {h : xm_H} {P : Option Value → xm_H → Prop} {a0 : Nat} {a1 : Nat} {x2 : Int32} (hr : ∃ fs, h[a0]? = some (.inr (6, fs))) (H :
    ∃ n1, xm_len xm_st h a1 = some n1 ∧
    xm_Call K sJ9_min_7cf53 99 [.int n1, .int (128 : Int32)] h (xm_pi fun c3 h2 =>
      xm_Call K sJ9_min_7cf53 99 [.int x2, .int c3] h2 (xm_pi fun c5 h4 =>
        xm_Call K sJ9_max_7cf53 99 [.int (0 : Int32), .int c5] h4 (xm_pi fun c7 h6 =>
          ∃ h8, xm_put h6 a0 6 1 (.int c7) = some h8 ∧ /- length -/
          ∃ q9, xm_fld h8 a0 6 0 = some (.ref q9) ∧ /- code -/
          ∃ f10, xm_fld h8 a0 6 1 = some (.int f10) ∧ /- length -/
          ∃ h11, xm_cpI h8 a1 (0 : Int32) q9 (0 : Int32) f10 = some h11 ∧
          P none h11)))) :
    xm_Call K' sX6_become 6 [.ref a0, .ref a1, .int x2] h P :=
  xm_call_of (C := kX6_become) hK (by decide +kernel) rfl (Nat.le_of_ble_eq_true rfl) (Or.inr ⟨a0, hr.choose, rfl, hr.choose_spec⟩) (xX6_become_0 H)

def kX6_workOut : List xm_I := [
  i_v 0 (.iconst 0) 1 none 0 [],
  i_0 1 (.istore_n 2) 1 none,
  i_v 2 (.iconst 0) 1 none 0 [],
  i_0 3 (.istore_n 3) 1 none,
  i_0 4 (.iload_n 3) 1 (some [true, true, true, true, false, false]),
  i_0 5 (.aload_n 0) 1 none,
  i_f 6 (.getfield 15) 3 none 6 1 [161] 0,
  i_j 9 (.if_icmp .ge 214) 3 none 120,
  i_0 12 (.aload_n 0) 1 none,
  i_f 13 (.getfield 9) 3 none 6 0 [160] 1,
  i_0 16 (.iload_n 3) 1 none,
  i_0 17 (.iaload) 1 none,
  i_0 18 (.istore 4) 2 none,
  i_0 20 (.iload 4) 2 none,
  i_j 22 (.ifCond .lt 10) 3 none 18,
  i_0 25 (.iload 4) 2 none,
  i_v 27 (.bipush 6) 2 none 6 [],
  i_j 29 (.if_icmp .lt 11) 3 none 21,
  i_0 32 (.iload 4) 2 none,
  i_v 34 (.sipush 1000) 3 none 1000 [],
  i_j 37 (.if_icmp .lt 45) 3 none 42,
  i_0 40 (.iload_n 2) 1 none,
  i_v 41 (.sipush 128) 3 none 128 [],
  i_j 44 (.if_icmp .lt 5) 3 none 26,
  i_v 47 (.iconst 0) 1 none 0 [],
  i_0 48 (.ireturn) 1 none,
  i_0 49 (.aload_n 0) 1 none,
  i_f 50 (.getfield 19) 3 none 6 2 [162] 1,
  i_0 53 (.iload_n 2) 1 none,
  i_0 54 (.iload 4) 2 none,
  i_v 56 (.sipush 1000) 3 none 1000 [],
  i_j 59 (.if_icmp .lt 12) 3 none 36,
  i_0 62 (.iload 4) 2 none,
  i_v 64 (.sipush 1000) 3 none 1000 [],
  i_0 67 (.isub) 1 none,
  i_j 68 (.goto 7) 3 none 39,
  i_0 71 (.aload_n 1) 1 none,
  i_0 72 (.iload 4) 2 none,
  i_0 74 (.iaload) 1 none,
  i_0 75 (.iastore) 1 none,
  i_v 76 (.iinc 2 1) 3 none 1 [],
  i_j 79 (.goto 138) 3 none 118,
  i_0 82 (.iload_n 2) 1 none,
  i_v 83 (.iconst 1) 1 none 1 [],
  i_j 84 (.if_icmp .ge 5) 3 none 47,
  i_v 87 (.iconst 0) 1 none 0 [],
  i_0 88 (.ireturn) 1 none,
  i_0 89 (.aload_n 0) 1 none,
  i_f 90 (.getfield 19) 3 none 6 2 [162] 1,
  i_0 93 (.iload_n 2) 1 none,
  i_v 94 (.iconst 1) 1 none 1 [],
  i_0 95 (.isub) 1 none,
  i_0 96 (.iaload) 1 none,
  i_0 97 (.istore 5) 2 none,
  i_0 99 (.iload 4) 2 none,
  i_v 101 (.bipush 59) 2 none 59 [],
  i_j 103 (.if_icmp .ne 6) 3 none 59,
  i_0 106 (.iload 5) 2 none,
  i_0 108 (.ireturn) 1 none,
  i_0 109 (.iload 4) 2 none,
  i_j 111 (.ifCond .ge 25) 3 none 73,
  i_v 114 (.iconst 0) 1 none 0 [],
  i_0 115 (.istore_n 2) 1 none,
  i_0 116 (.iload 5) 2 none,
  i_j 118 (.ifCond .ne 13) 3 none 70,
  i_0 121 (.iload_n 3) 1 none,
  i_0 122 (.iload 4) 2 none,
  i_0 124 (.ineg) 1 none,
  i_m 125 (.invokestatic 28) 3 none 2 99 [492, 493, 119, 494] 0 sJ9_max_7cf53,
  i_j 128 (.goto 4) 3 none 71,
  i_0 131 (.iload_n 3) 1 none,
  i_0 132 (.istore_n 3) 1 none,
  i_j 133 (.goto 84) 3 none 118,
  i_0 136 (.iload 4) 2 none,
  i_v 138 (.bipush 33) 2 none 33 [],
  i_j 140 (.if_icmp .eq 10) 3 none 79,
  i_0 143 (.iload 4) 2 none,
  i_v 145 (.bipush 126) 2 none 126 [],
  i_j 147 (.if_icmp .ne 37) 3 none 97,
  i_0 150 (.aload_n 0) 1 none,
  i_f 151 (.getfield 19) 3 none 6 2 [162] 1,
  i_0 154 (.iload_n 2) 1 none,
  i_v 155 (.iconst 1) 1 none 1 [],
  i_0 156 (.isub) 1 none,
  i_0 157 (.iload 4) 2 none,
  i_v 159 (.bipush 126) 2 none 126 [],
  i_j 161 (.if_icmp .ne 9) 3 none 90,
  i_0 164 (.iload 5) 2 none,
  i_0 166 (.ineg) 1 none,
  i_j 167 (.goto 13) 3 none 95,
  i_0 170 (.iload 5) 2 none,
  i_j 172 (.ifCond .ne 7) 3 none 94,
  i_v 175 (.iconst 1) 1 none 1 [],
  i_j 176 (.goto 4) 3 none 95,
  i_v 179 (.iconst 0) 1 none 0 [],
  i_0 180 (.iastore) 1 none,
  i_j 181 (.goto 36) 3 none 118,
  i_0 184 (.iload_n 2) 1 none,
  i_v 185 (.iconst 2) 1 none 2 [],
  i_j 186 (.if_icmp .ge 5) 3 none 102,
  i_v 189 (.iconst 0) 1 none 0 [],
  i_0 190 (.ireturn) 1 none,
  i_v 191 (.iinc 2 (-1)) 3 none (-1) [],
  i_0 194 (.aload_n 0) 1 none,
  i_f 195 (.getfield 19) 3 none 6 2 [162] 1,
  i_0 198 (.iload_n 2) 1 none,
  i_v 199 (.iconst 1) 1 none 1 [],
  i_0 200 (.isub) 1 none,
  i_0 201 (.iload 4) 2 none,
  i_0 203 (.aload_n 0) 1 none,
  i_f 204 (.getfield 19) 3 none 6 2 [162] 1,
  i_0 207 (.iload_n 2) 1 none,
  i_v 208 (.iconst 1) 1 none 1 [],
  i_0 209 (.isub) 1 none,
  i_0 210 (.iaload) 1 none,
  i_0 211 (.iload 5) 2 none,
  i_m 213 (.invokestatic 37) 3 none 3 99 [537, 538, 111, 539] 0 sX6_combine,
  i_0 216 (.iastore) 1 none,
  i_v 217 (.iinc 3 1) 3 none 1 [],
  i_j 220 (.goto (-216)) 3 none 4,
  i_v 223 (.iconst 0) 1 none 0 [],
  i_0 224 (.ireturn) 1 none]
set_option maxRecDepth 100000 in
theorem oX6_workOut : xm_ok sX6_workOut sX6_workOut.1.cls kX6_workOut = true := by decide +kernel
set_option maxRecDepth 100000 in
set_option maxHeartbeats 4000000 in
theorem xX6_workOut_0 {K : Nat} {h : xm_H} {P : Option Value → xm_H → Prop} {a0 : Nat} {a1 : Nat} (H :
    xm_L K sX6_workOut kX6_workOut 4 [some (.ref a0), some (.ref a1), some (.int (0 : Int32)), some (.int (0 : Int32)), none, none] [] h P) :
    xm_L K sX6_workOut kX6_workOut 0 [some (.ref a0), some (.ref a1), none, none, none, none] [] h P :=
  xm_run (fun _ _ h => h) oX6_workOut 5 0 0 0 [some (.ref a0), some (.ref a1), none, none, none, none] [] h H
set_option maxRecDepth 100000 in
theorem eX6_workOut {K K' : Nat} (hK : K < K') {h : xm_H} {P : Option Value → xm_H → Prop} {a0 : Nat} {a1 : Nat} (hr : ∃ fs, h[a0]? = some (.inr (6, fs))) (H :
    xm_L K sX6_workOut kX6_workOut 4 [some (.ref a0), some (.ref a1), some (.int (0 : Int32)), some (.int (0 : Int32)), none, none] [] h P) :
    xm_Call K' sX6_workOut 6 [.ref a0, .ref a1] h P :=
  xm_call_of (C := kX6_workOut) hK (by decide +kernel) rfl (Nat.le_of_ble_eq_true rfl) (Or.inr ⟨a0, hr.choose, rfl, hr.choose_spec⟩) (xX6_workOut_0 H)

set_option maxRecDepth 100000 in
set_option maxHeartbeats 4000000 in
theorem xX6_workOut_4 {K : Nat} {h : xm_H} {P : Option Value → xm_H → Prop} {a0 : Nat} {a1 : Nat} {x2 : Int32} {x3 : Int32} (H :
    ∃ f1, xm_fld h a0 6 1 = some (.int f1) ∧ /- length -/
    (if x3 < f1 then
      ∃ q2, xm_fld h a0 6 0 = some (.ref q2) ∧ /- code -/
      ∃ e3, xm_ld xm_st h 0 q2 x3 = some e3 ∧
      (if e3 < 0 then
        (if e3 < (1000 : Int32) then
          (if x2 < (1 : Int32) then
            P (some (.int (0 : Int32))) h
          else
            ∃ q4, xm_fld h a0 6 2 = some (.ref q4) ∧ /- stack -/
            ∃ e5, xm_ld xm_st h 0 q4 (x2 - (1 : Int32)) = some e5 ∧
            (if e3 = (59 : Int32) then
              P (some (.int e5)) h
            else
              (if e3 < 0 then
                (if e5 = 0 then
                  xm_Call K sJ9_max_7cf53 99 [.int x3, .int (-e3)] h (xm_pi fun c7 h6 =>
                    xm_L K sX6_workOut kX6_workOut 4 [some (.ref a0), some (.ref a1), some (.int (0 : Int32)), some (.int (c7 + (1 : Int32))), none, none] [] h6 P)
                else
                  xm_L K sX6_workOut kX6_workOut 4 [some (.ref a0), some (.ref a1), some (.int (0 : Int32)), some (.int (x3 + (1 : Int32))), none, none] [] h P)
              else
                (if e3 = (33 : Int32) then
                  ∃ q8, xm_fld h a0 6 2 = some (.ref q8) ∧ /- stack -/
                  (if e3 = (126 : Int32) then
                    ∃ h9, xm_sto h 0 q8 (x2 - (1 : Int32)) (-e5) = some h9 ∧
                    xm_L K sX6_workOut kX6_workOut 4 [some (.ref a0), some (.ref a1), some (.int x2), some (.int (x3 + (1 : Int32))), none, none] [] h9 P
                  else
                    (if e5 = 0 then
                      ∃ h10, xm_sto h 0 q8 (x2 - (1 : Int32)) (1 : Int32) = some h10 ∧
                      xm_L K sX6_workOut kX6_workOut 4 [some (.ref a0), some (.ref a1), some (.int x2), some (.int (x3 + (1 : Int32))), none, none] [] h10 P
                    else
                      ∃ h11, xm_sto h 0 q8 (x2 - (1 : Int32)) (0 : Int32) = some h11 ∧
                      xm_L K sX6_workOut kX6_workOut 4 [some (.ref a0), some (.ref a1), some (.int x2), some (.int (x3 + (1 : Int32))), none, none] [] h11 P))
                else
                  (if e3 = (126 : Int32) then
                    ∃ q12, xm_fld h a0 6 2 = some (.ref q12) ∧ /- stack -/
                    (if e3 = (126 : Int32) then
                      ∃ h13, xm_sto h 0 q12 (x2 - (1 : Int32)) (-e5) = some h13 ∧
                      xm_L K sX6_workOut kX6_workOut 4 [some (.ref a0), some (.ref a1), some (.int x2), some (.int (x3 + (1 : Int32))), none, none] [] h13 P
                    else
                      (if e5 = 0 then
                        ∃ h14, xm_sto h 0 q12 (x2 - (1 : Int32)) (1 : Int32) = some h14 ∧
                        xm_L K sX6_workOut kX6_workOut 4 [some (.ref a0), some (.ref a1), some (.int x2), some (.int (x3 + (1 : Int32))), none, none] [] h14 P
                      else
                        ∃ h15, xm_sto h 0 q12 (x2 - (1 : Int32)) (0 : Int32) = some h15 ∧
                        xm_L K sX6_workOut kX6_workOut 4 [some (.ref a0), some (.ref a1), some (.int x2), some (.int (x3 + (1 : Int32))), none, none] [] h15 P))
                  else
                    (if x2 < (2 : Int32) then
                      P (some (.int (0 : Int32))) h
                    else
                      ∃ q16, xm_fld h a0 6 2 = some (.ref q16) ∧ /- stack -/
                      ∃ q17, xm_fld h a0 6 2 = some (.ref q17) ∧ /- stack -/
                      ∃ e18, xm_ld xm_st h 0 q17 ((x2 + (-1 : Int32)) - (1 : Int32)) = some e18 ∧
                      xm_Call K sX6_combine 99 [.int e3, .int e18, .int e5] h (xm_pi fun c20 h19 =>
                        ∃ h21, xm_sto h19 0 q16 ((x2 + (-1 : Int32)) - (1 : Int32)) c20 = some h21 ∧
                        xm_L K sX6_workOut kX6_workOut 4 [some (.ref a0), some (.ref a1), some (.int (x2 + (-1 : Int32))), some (.int (x3 + (1 : Int32))), none, none] [] h21 P)))))))
        else
          (if x2 < (128 : Int32) then
            ∃ q22, xm_fld h a0 6 2 = some (.ref q22) ∧ /- stack -/
            (if e3 < (1000 : Int32) then
              ∃ e23, xm_ld xm_st h 0 a1 e3 = some e23 ∧
              ∃ h24, xm_sto h 0 q22 x2 e23 = some h24 ∧
              xm_L K sX6_workOut kX6_workOut 4 [some (.ref a0), some (.ref a1), some (.int (x2 + (1 : Int32))), some (.int (x3 + (1 : Int32))), none, none] [] h24 P
            else
              ∃ h25, xm_sto h 0 q22 x2 (e3 - (1000 : Int32)) = some h25 ∧
              xm_L K sX6_workOut kX6_workOut 4 [some (.ref a0), some (.ref a1), some (.int (x2 + (1 : Int32))), some (.int (x3 + (1 : Int32))), none, none] [] h25 P)
          else
            P (some (.int (0 : Int32))) h))
      else
        (if e3 < (6 : Int32) then
          (if x2 < (128 : Int32) then
            ∃ q26, xm_fld h a0 6 2 = some (.ref q26) ∧ /- stack -/
            (if e3 < (1000 : Int32) then
              ∃ e27, xm_ld xm_st h 0 a1 e3 = some e27 ∧
              ∃ h28, xm_sto h 0 q26 x2 e27 = some h28 ∧
              xm_L K sX6_workOut kX6_workOut 4 [some (.ref a0), some (.ref a1), some (.int (x2 + (1 : Int32))), some (.int (x3 + (1 : Int32))), none, none] [] h28 P
            else
              ∃ h29, xm_sto h 0 q26 x2 (e3 - (1000 : Int32)) = some h29 ∧
              xm_L K sX6_workOut kX6_workOut 4 [some (.ref a0), some (.ref a1), some (.int (x2 + (1 : Int32))), some (.int (x3 + (1 : Int32))), none, none] [] h29 P)
          else
            P (some (.int (0 : Int32))) h)
        else
          (if e3 < (1000 : Int32) then
            (if x2 < (1 : Int32) then
              P (some (.int (0 : Int32))) h
            else
              ∃ q30, xm_fld h a0 6 2 = some (.ref q30) ∧ /- stack -/
              ∃ e31, xm_ld xm_st h 0 q30 (x2 - (1 : Int32)) = some e31 ∧
              (if e3 = (59 : Int32) then
                P (some (.int e31)) h
              else
                (if e3 < 0 then
                  (if e31 = 0 then
                    xm_Call K sJ9_max_7cf53 99 [.int x3, .int (-e3)] h (xm_pi fun c33 h32 =>
                      xm_L K sX6_workOut kX6_workOut 4 [some (.ref a0), some (.ref a1), some (.int (0 : Int32)), some (.int (c33 + (1 : Int32))), none, none] [] h32 P)
                  else
                    xm_L K sX6_workOut kX6_workOut 4 [some (.ref a0), some (.ref a1), some (.int (0 : Int32)), some (.int (x3 + (1 : Int32))), none, none] [] h P)
                else
                  (if e3 = (33 : Int32) then
                    ∃ q34, xm_fld h a0 6 2 = some (.ref q34) ∧ /- stack -/
                    (if e3 = (126 : Int32) then
                      ∃ h35, xm_sto h 0 q34 (x2 - (1 : Int32)) (-e31) = some h35 ∧
                      xm_L K sX6_workOut kX6_workOut 4 [some (.ref a0), some (.ref a1), some (.int x2), some (.int (x3 + (1 : Int32))), none, none] [] h35 P
                    else
                      (if e31 = 0 then
                        ∃ h36, xm_sto h 0 q34 (x2 - (1 : Int32)) (1 : Int32) = some h36 ∧
                        xm_L K sX6_workOut kX6_workOut 4 [some (.ref a0), some (.ref a1), some (.int x2), some (.int (x3 + (1 : Int32))), none, none] [] h36 P
                      else
                        ∃ h37, xm_sto h 0 q34 (x2 - (1 : Int32)) (0 : Int32) = some h37 ∧
                        xm_L K sX6_workOut kX6_workOut 4 [some (.ref a0), some (.ref a1), some (.int x2), some (.int (x3 + (1 : Int32))), none, none] [] h37 P))
                  else
                    (if e3 = (126 : Int32) then
                      ∃ q38, xm_fld h a0 6 2 = some (.ref q38) ∧ /- stack -/
                      (if e3 = (126 : Int32) then
                        ∃ h39, xm_sto h 0 q38 (x2 - (1 : Int32)) (-e31) = some h39 ∧
                        xm_L K sX6_workOut kX6_workOut 4 [some (.ref a0), some (.ref a1), some (.int x2), some (.int (x3 + (1 : Int32))), none, none] [] h39 P
                      else
                        (if e31 = 0 then
                          ∃ h40, xm_sto h 0 q38 (x2 - (1 : Int32)) (1 : Int32) = some h40 ∧
                          xm_L K sX6_workOut kX6_workOut 4 [some (.ref a0), some (.ref a1), some (.int x2), some (.int (x3 + (1 : Int32))), none, none] [] h40 P
                        else
                          ∃ h41, xm_sto h 0 q38 (x2 - (1 : Int32)) (0 : Int32) = some h41 ∧
                          xm_L K sX6_workOut kX6_workOut 4 [some (.ref a0), some (.ref a1), some (.int x2), some (.int (x3 + (1 : Int32))), none, none] [] h41 P))
                    else
                      (if x2 < (2 : Int32) then
                        P (some (.int (0 : Int32))) h
                      else
                        ∃ q42, xm_fld h a0 6 2 = some (.ref q42) ∧ /- stack -/
                        ∃ q43, xm_fld h a0 6 2 = some (.ref q43) ∧ /- stack -/
                        ∃ e44, xm_ld xm_st h 0 q43 ((x2 + (-1 : Int32)) - (1 : Int32)) = some e44 ∧
                        xm_Call K sX6_combine 99 [.int e3, .int e44, .int e31] h (xm_pi fun c46 h45 =>
                          ∃ h47, xm_sto h45 0 q42 ((x2 + (-1 : Int32)) - (1 : Int32)) c46 = some h47 ∧
                          xm_L K sX6_workOut kX6_workOut 4 [some (.ref a0), some (.ref a1), some (.int (x2 + (-1 : Int32))), some (.int (x3 + (1 : Int32))), none, none] [] h47 P)))))))
          else
            (if x2 < (128 : Int32) then
              ∃ q48, xm_fld h a0 6 2 = some (.ref q48) ∧ /- stack -/
              (if e3 < (1000 : Int32) then
                ∃ e49, xm_ld xm_st h 0 a1 e3 = some e49 ∧
                ∃ h50, xm_sto h 0 q48 x2 e49 = some h50 ∧
                xm_L K sX6_workOut kX6_workOut 4 [some (.ref a0), some (.ref a1), some (.int (x2 + (1 : Int32))), some (.int (x3 + (1 : Int32))), none, none] [] h50 P
              else
                ∃ h51, xm_sto h 0 q48 x2 (e3 - (1000 : Int32)) = some h51 ∧
                xm_L K sX6_workOut kX6_workOut 4 [some (.ref a0), some (.ref a1), some (.int (x2 + (1 : Int32))), some (.int (x3 + (1 : Int32))), none, none] [] h51 P)
            else
              P (some (.int (0 : Int32))) h))))
    else
      P (some (.int (0 : Int32))) h)) :
    xm_L K sX6_workOut kX6_workOut 4 [some (.ref a0), some (.ref a1), some (.int x2), some (.int x3), none, none] [] h P :=
  xm_run (fun _ _ h => h) oX6_workOut 60 4 0 0 [some (.ref a0), some (.ref a1), some (.int x2), some (.int x3), none, none] [] h H

def kX6_combine : List xm_I := [
  i_0 0 (.iload_n 0) 1 none,
  i_s 1 (.lookupswitch 188 #[(37, 176), (38, 105), (42, 160), (43, 152), (45, 156), (47, 164), (60, 119), (61, 130), (62, 141), (124, 91)]) 91 none 67 [(37, 59), (38, 10), (42, 47), (43, 39), (45, 43), (47, 51), (60, 18), (61, 25), (62, 32), (124, 2)],
  i_0 92 (.iload_n 1) 1 none,
  i_j 93 (.ifCond .ne 7) 3 none 6,
  i_0 96 (.iload_n 2) 1 none,
  i_j 97 (.ifCond .eq 7) 3 none 8,
  i_v 100 (.iconst 1) 1 none 1 [],
  i_j 101 (.goto 4) 3 none 9,
  i_v 104 (.iconst 0) 1 none 0 [],
  i_0 105 (.ireturn) 1 none,
  i_0 106 (.iload_n 1) 1 none,
  i_j 107 (.ifCond .eq 11) 3 none 16,
  i_0 110 (.iload_n 2) 1 none,
  i_j 111 (.ifCond .eq 7) 3 none 16,
  i_v 114 (.iconst 1) 1 none 1 [],
  i_j 115 (.goto 4) 3 none 17,
  i_v 118 (.iconst 0) 1 none 0 [],
  i_0 119 (.ireturn) 1 none,
  i_0 120 (.iload_n 1) 1 none,
  i_0 121 (.iload_n 2) 1 none,
  i_j 122 (.if_icmp .ge 7) 3 none 23,
  i_v 125 (.iconst 1) 1 none 1 [],
  i_j 126 (.goto 4) 3 none 24,
  i_v 129 (.iconst 0) 1 none 0 [],
  i_0 130 (.ireturn) 1 none,
  i_0 131 (.iload_n 1) 1 none,
  i_0 132 (.iload_n 2) 1 none,
  i_j 133 (.if_icmp .ne 7) 3 none 30,
  i_v 136 (.iconst 1) 1 none 1 [],
  i_j 137 (.goto 4) 3 none 31,
  i_v 140 (.iconst 0) 1 none 0 [],
  i_0 141 (.ireturn) 1 none,
  i_0 142 (.iload_n 1) 1 none,
  i_0 143 (.iload_n 2) 1 none,
  i_j 144 (.if_icmp .le 7) 3 none 37,
  i_v 147 (.iconst 1) 1 none 1 [],
  i_j 148 (.goto 4) 3 none 38,
  i_v 151 (.iconst 0) 1 none 0 [],
  i_0 152 (.ireturn) 1 none,
  i_0 153 (.iload_n 1) 1 none,
  i_0 154 (.iload_n 2) 1 none,
  i_0 155 (.iadd) 1 none,
  i_0 156 (.ireturn) 1 none,
  i_0 157 (.iload_n 1) 1 none,
  i_0 158 (.iload_n 2) 1 none,
  i_0 159 (.isub) 1 none,
  i_0 160 (.ireturn) 1 none,
  i_0 161 (.iload_n 1) 1 none,
  i_0 162 (.iload_n 2) 1 none,
  i_0 163 (.imul) 1 none,
  i_0 164 (.ireturn) 1 none,
  i_0 165 (.iload_n 2) 1 none,
  i_j 166 (.ifCond .ne 7) 3 none 55,
  i_v 169 (.iconst 0) 1 none 0 [],
  i_j 170 (.goto 6) 3 none 58,
  i_0 173 (.iload_n 1) 1 none,
  i_0 174 (.iload_n 2) 1 none,
  i_0 175 (.idiv) 1 none,
  i_0 176 (.ireturn) 1 none,
  i_0 177 (.iload_n 2) 1 none,
  i_j 178 (.ifCond .ne 7) 3 none 63,
  i_v 181 (.iconst 0) 1 none 0 [],
  i_j 182 (.goto 6) 3 none 66,
  i_0 185 (.iload_n 1) 1 none,
  i_0 186 (.iload_n 2) 1 none,
  i_0 187 (.irem) 1 none,
  i_0 188 (.ireturn) 1 none,
  i_v 189 (.iconst 0) 1 none 0 [],
  i_0 190 (.ireturn) 1 none]
set_option maxRecDepth 100000 in
theorem oX6_combine : xm_ok sX6_combine sX6_combine.1.cls kX6_combine = true := by decide +kernel
set_option maxRecDepth 100000 in
set_option maxHeartbeats 4000000 in
theorem xX6_combine_0 {K : Nat} {h : xm_H} {P : Option Value → xm_H → Prop} {x0 : Int32} {x1 : Int32} {x2 : Int32} (H :
    (if x0 = 37 then
      (if x2 = 0 then
        P (some (.int (0 : Int32))) h
      else
        ¬ x2 = 0 ∧
        P (some (.int (x1 - x1 / x2 * x2))) h)
    else
    (if x0 = 38 then
      (if x1 = 0 then
        P (some (.int (0 : Int32))) h
      else
        (if x2 = 0 then
          P (some (.int (0 : Int32))) h
        else
          P (some (.int (1 : Int32))) h))
    else
    (if x0 = 42 then
      P (some (.int (x1 * x2))) h
    else
    (if x0 = 43 then
      P (some (.int (x1 + x2))) h
    else
    (if x0 = 45 then
      P (some (.int (x1 - x2))) h
    else
    (if x0 = 47 then
      (if x2 = 0 then
        P (some (.int (0 : Int32))) h
      else
        ¬ x2 = 0 ∧
        P (some (.int (x1 / x2))) h)
    else
    (if x0 = 60 then
      (if x1 < x2 then
        P (some (.int (1 : Int32))) h
      else
        P (some (.int (0 : Int32))) h)
    else
    (if x0 = 61 then
      (if x1 = x2 then
        P (some (.int (1 : Int32))) h
      else
        P (some (.int (0 : Int32))) h)
    else
    (if x0 = 62 then
      (if x2 < x1 then
        P (some (.int (1 : Int32))) h
      else
        P (some (.int (0 : Int32))) h)
    else
    (if x0 = 124 then
      (if x1 = 0 then
        (if x2 = 0 then
          P (some (.int (0 : Int32))) h
        else
          P (some (.int (1 : Int32))) h)
      else
        P (some (.int (1 : Int32))) h)
    else
    P (some (.int (0 : Int32))) h))))))))))) :
    xm_L K sX6_combine kX6_combine 0 [some (.int x0), some (.int x1), some (.int x2)] [] h P :=
  xm_run (fun _ _ h => h) oX6_combine 10 0 0 0 [some (.int x0), some (.int x1), some (.int x2)] [] h H
set_option maxRecDepth 100000 in
theorem eX6_combine {K K' : Nat} (hK : K < K') {h : xm_H} {P : Option Value → xm_H → Prop} {x0 : Int32} {x1 : Int32} {x2 : Int32} (H :
    (if x0 = 37 then
      (if x2 = 0 then
        P (some (.int (0 : Int32))) h
      else
        ¬ x2 = 0 ∧
        P (some (.int (x1 - x1 / x2 * x2))) h)
    else
    (if x0 = 38 then
      (if x1 = 0 then
        P (some (.int (0 : Int32))) h
      else
        (if x2 = 0 then
          P (some (.int (0 : Int32))) h
        else
          P (some (.int (1 : Int32))) h))
    else
    (if x0 = 42 then
      P (some (.int (x1 * x2))) h
    else
    (if x0 = 43 then
      P (some (.int (x1 + x2))) h
    else
    (if x0 = 45 then
      P (some (.int (x1 - x2))) h
    else
    (if x0 = 47 then
      (if x2 = 0 then
        P (some (.int (0 : Int32))) h
      else
        ¬ x2 = 0 ∧
        P (some (.int (x1 / x2))) h)
    else
    (if x0 = 60 then
      (if x1 < x2 then
        P (some (.int (1 : Int32))) h
      else
        P (some (.int (0 : Int32))) h)
    else
    (if x0 = 61 then
      (if x1 = x2 then
        P (some (.int (1 : Int32))) h
      else
        P (some (.int (0 : Int32))) h)
    else
    (if x0 = 62 then
      (if x2 < x1 then
        P (some (.int (1 : Int32))) h
      else
        P (some (.int (0 : Int32))) h)
    else
    (if x0 = 124 then
      (if x1 = 0 then
        (if x2 = 0 then
          P (some (.int (0 : Int32))) h
        else
          P (some (.int (1 : Int32))) h)
      else
        P (some (.int (1 : Int32))) h)
    else
    P (some (.int (0 : Int32))) h))))))))))) :
    xm_Call K' sX6_combine 99 [.int x0, .int x1, .int x2] h P :=
  xm_call_of (C := kX6_combine) hK (by decide +kernel) rfl (Nat.le_of_ble_eq_true rfl) (Or.inl rfl) (xX6_combine_0 H)

