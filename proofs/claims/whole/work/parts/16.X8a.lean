def kX8_init : List xm_I := [
  i_0 0 (.aload_n 0) 1 none,
  i_f 1 (.invokespecial 1) 3 none 0 0 [126, 127, 128] 2,
  i_0 4 (.aload_n 0) 1 none,
  i_f 5 (.new 7) 3 none 7 2 [129, 130, 109] 0,
  i_0 8 (.dup) 1 none,
  i_m 9 (.invokespecial 9) 3 none 0 7 [131, 132, 109, 133] 0 sX7_init,
  i_f 12 (.putfield 10) 3 none 8 0 [328] 1,
  i_0 15 (.aload_n 0) 1 none,
  i_f 16 (.new 7) 3 none 7 2 [129, 130, 109] 0,
  i_0 19 (.dup) 1 none,
  i_m 20 (.invokespecial 9) 3 none 0 7 [131, 132, 109, 133] 0 sX7_init,
  i_f 23 (.putfield 16) 3 none 8 1 [329] 1,
  i_0 26 (.aload_n 0) 1 none,
  i_f 27 (.new 19) 3 none 4 11 [148, 149, 110] 0,
  i_0 30 (.dup) 1 none,
  i_m 31 (.invokespecial 21) 3 none 0 4 [150, 151, 110, 152] 1 sX4_init,
  i_f 34 (.putfield 22) 3 none 8 2 [330] 1,
  i_0 37 (.aload_n 0) 1 none,
  i_f 38 (.new 26) 3 none 3 5 [211, 212, 112] 0,
  i_0 41 (.dup) 1 none,
  i_m 42 (.invokespecial 28) 3 none 0 3 [213, 214, 112, 215] 1 sX3_init,
  i_f 45 (.putfield 29) 3 none 8 3 [331] 1,
  i_0 48 (.aload_n 0) 1 none,
  i_f 49 (.new 33) 3 none 2 5 [237, 238, 113] 0,
  i_0 52 (.dup) 1 none,
  i_m 53 (.invokespecial 35) 3 none 0 2 [239, 240, 113, 241] 1 sX2_init,
  i_f 56 (.putfield 36) 3 none 8 4 [332] 1,
  i_0 59 (.aload_n 0) 1 none,
  i_v 60 (.bipush 6) 2 none 6 [],
  i_f 62 (.newarray .int) 2 none 0 6 [147] 6,
  i_f 64 (.putfield 40) 3 none 8 5 [333] 1,
  i_0 67 (.aload_n 0) 1 none,
  i_f 68 (.new 7) 3 none 7 2 [129, 130, 109] 0,
  i_0 71 (.dup) 1 none,
  i_m 72 (.invokespecial 9) 3 none 0 7 [131, 132, 109, 133] 0 sX7_init,
  i_f 75 (.putfield 44) 3 none 8 6 [334] 1,
  i_0 78 (.aload_n 0) 1 none,
  i_v 79 (.bipush 6) 2 none 6 [],
  i_f 81 (.newarray .int) 2 none 0 6 [147] 6,
  i_f 83 (.putfield 47) 3 none 8 7 [335] 1,
  i_0 86 (.aload_n 0) 1 none,
  i_v 87 (.iconst 0) 1 none 0 [],
  i_f 88 (.putfield 50) 3 none 8 8 [336] 2,
  i_0 91 (.aload_n 0) 1 none,
  i_v 92 (.sipush 1024) 3 none 1024 [],
  i_f 95 (.newarray .int) 2 none 0 1024 [147] 1024,
  i_f 97 (.putfield 54) 3 none 8 9 [337] 1,
  i_0 100 (.aload_n 0) 1 none,
  i_f 101 (.new 57) 3 none 0 3 [261, 262, 114] 0,
  i_0 104 (.dup) 1 none,
  i_m 105 (.invokespecial 59) 3 none 0 0 [263, 264, 114, 265] 1 sX0_init,
  i_f 108 (.putfield 60) 3 none 8 10 [338] 1,
  i_0 111 (.aload_n 0) 1 none,
  i_f 112 (.new 64) 3 none 1 5 [277, 278, 115] 0,
  i_0 115 (.dup) 1 none,
  i_m 116 (.invokespecial 66) 3 none 0 1 [279, 280, 115, 281] 1 sX1_init,
  i_f 119 (.putfield 67) 3 none 8 11 [339] 1,
  i_0 122 (.aload_n 0) 1 none,
  i_v 123 (.bipush 6) 2 none 6 [],
  i_f 125 (.anewarray 71) 3 none 4 6 [303] 6,
  i_f 128 (.putfield 73) 3 none 8 12 [340] 1,
  i_v 131 (.iconst 0) 1 none 0 [],
  i_0 132 (.istore_n 1) 1 none,
  i_0 133 (.iload_n 1) 1 (some [true, true]),
  i_v 134 (.bipush 6) 2 none 6 [],
  i_j 136 (.if_icmp .ge 22) 3 none 75,
  i_0 139 (.aload_n 0) 1 none,
  i_f 140 (.getfield 73) 3 none 8 12 [340] 1,
  i_0 143 (.iload_n 1) 1 none,
  i_f 144 (.new 71) 3 none 5 4 [303, 305, 116] 0,
  i_0 147 (.dup) 1 none,
  i_m 148 (.invokespecial 77) 3 none 0 5 [306, 307, 116, 308] 1 sX5_init,
  i_0 151 (.aastore) 1 none,
  i_v 152 (.iinc 1 1) 3 none 1 [],
  i_j 155 (.goto (-22)) 3 none 63,
  i_0 158 (.return_) 1 none]
set_option maxRecDepth 100000 in
theorem oX8_init : xm_ok sX8_init sX8_init.1.cls kX8_init = true := by decide +kernel
set_option maxRecDepth 100000 in
set_option maxHeartbeats 4000000 in
theorem xX8_init_0 {K : Nat} {h : xm_H} {P : Option Value → xm_H → Prop} {a0 : Nat} (H :
    (0 + 1 ≤ 43 ∧ 0 + 2 ≤ 2433) ∧ xm_va h [some (.ref a0), none] [.ref a0] 1 ∧
    (1 + 1 ≤ 43 ∧ 2 + 67 ≤ 2433 ∧ 2 ≤ 45) ∧ xm_va (h ++ [.inr (7, xm_df 7)]) [some (.ref a0), none] [.ref (List.length h), .ref a0] 1 ∧
    xm_Call K sX7_init 7 [.ref (List.length h)] (h ++ [.inr (7, xm_df 7)]) (xm_pv fun h1 =>
      ∃ h2, xm_put h1 a0 8 0 (.ref (List.length h)) = some h2 ∧ /- now -/
      (2 + 1 ≤ 43 ∧ 69 + 2 ≤ 2433) ∧ xm_va h2 [some (.ref a0), none] [.ref a0] 1 ∧
      (3 + 1 ≤ 43 ∧ 71 + 67 ≤ 2433 ∧ 2 ≤ 45) ∧ xm_va (h2 ++ [.inr (7, xm_df 7)]) [some (.ref a0), none] [.ref (List.length h2), .ref a0] 1 ∧
      xm_Call K sX7_init 7 [.ref (List.length h2)] (h2 ++ [.inr (7, xm_df 7)]) (xm_pv fun h3 =>
        ∃ h4, xm_put h3 a0 8 1 (.ref (List.length h2)) = some h4 ∧ /- thought -/
        (4 + 1 ≤ 43 ∧ 138 + 11 ≤ 2433) ∧ xm_va h4 [some (.ref a0), none] [.ref a0] 1 ∧
        (5 + 7 ≤ 43 ∧ 149 + 289 ≤ 2433 ∧ 1 ≤ 45) ∧ xm_va (h4 ++ [.inr (4, xm_df 4)]) [some (.ref a0), none] [.ref (List.length h4), .ref a0] 7 ∧
        xm_Call K sX4_init 4 [.ref (List.length h4)] (h4 ++ [.inr (4, xm_df 4)]) (xm_pv fun h5 =>
          ∃ h6, xm_put h5 a0 8 2 (.ref (List.length h4)) = some h6 ∧ /- reckoner -/
          (12 + 1 ≤ 43 ∧ 438 + 5 ≤ 2433) ∧ xm_va h6 [some (.ref a0), none] [.ref a0] 1 ∧
          (13 + 2 ≤ 43 ∧ 443 + 248 ≤ 2433 ∧ 1 ≤ 45) ∧ xm_va (h6 ++ [.inr (3, xm_df 3)]) [some (.ref a0), none] [.ref (List.length h6), .ref a0] 2 ∧
          xm_Call K sX3_init 3 [.ref (List.length h6)] (h6 ++ [.inr (3, xm_df 3)]) (xm_pv fun h7 =>
            ∃ h8, xm_put h7 a0 8 3 (.ref (List.length h6)) = some h8 ∧ /- reader -/
            (15 + 1 ≤ 43 ∧ 691 + 5 ≤ 2433) ∧ xm_va h8 [some (.ref a0), none] [.ref a0] 1 ∧
            (16 + 3 ≤ 43 ∧ 696 + 120 ≤ 2433 ∧ 1 ≤ 45) ∧ xm_va (h8 ++ [.inr (2, xm_df 2)]) [some (.ref a0), none] [.ref (List.length h8), .ref a0] 3 ∧
            xm_Call K sX2_init 2 [.ref (List.length h8)] (h8 ++ [.inr (2, xm_df 2)]) (xm_pv fun h9 =>
              ∃ h10, xm_put h9 a0 8 4 (.ref (List.length h8)) = some h10 ∧ /- changes -/
              (19 + 1 ≤ 43 ∧ 816 + 6 ≤ 2433) ∧ xm_va h10 [some (.ref a0), none] [.ref a0] 1 ∧
              ∃ h11, xm_put (h10 ++ [xm_za 0 6]) a0 8 5 (.ref (List.length h10)) = some h11 ∧ /- ledger -/
              (20 + 1 ≤ 43 ∧ 822 + 2 ≤ 2433) ∧ xm_va h11 [some (.ref a0), none] [.ref a0] 1 ∧
              (21 + 1 ≤ 43 ∧ 824 + 67 ≤ 2433 ∧ 2 ≤ 45) ∧ xm_va (h11 ++ [.inr (7, xm_df 7)]) [some (.ref a0), none] [.ref (List.length h11), .ref a0] 1 ∧
              xm_Call K sX7_init 7 [.ref (List.length h11)] (h11 ++ [.inr (7, xm_df 7)]) (xm_pv fun h12 =>
                ∃ h13, xm_put h12 a0 8 6 (.ref (List.length h11)) = some h13 ∧ /- kept -/
                (22 + 1 ≤ 43 ∧ 891 + 6 ≤ 2433) ∧ xm_va h13 [some (.ref a0), none] [.ref a0] 1 ∧
                ∃ h14, xm_put (h13 ++ [xm_za 0 6]) a0 8 7 (.ref (List.length h13)) = some h14 ∧ /- keptLedger -/
                ∃ h15, xm_put h14 a0 8 8 (.int (0 : Int32)) = some h15 ∧ /- imageThere -/
                (23 + 1 ≤ 43 ∧ 897 + 1024 ≤ 2433) ∧ xm_va h15 [some (.ref a0), none] [.ref a0] 1 ∧
                ∃ h16, xm_put (h15 ++ [xm_za 0 1024]) a0 8 9 (.ref (List.length h15)) = some h16 ∧ /- worths -/
                (24 + 1 ≤ 43 ∧ 1921 + 3 ≤ 2433) ∧ xm_va h16 [some (.ref a0), none] [.ref a0] 1 ∧
                (25 + 2 ≤ 43 ∧ 1924 + 40 ≤ 2433 ∧ 1 ≤ 45) ∧ xm_va (h16 ++ [.inr (0, xm_df 0)]) [some (.ref a0), none] [.ref (List.length h16), .ref a0] 2 ∧
                xm_Call K sX0_init 0 [.ref (List.length h16)] (h16 ++ [.inr (0, xm_df 0)]) (xm_pv fun h17 =>
                  ∃ h18, xm_put h17 a0 8 10 (.ref (List.length h16)) = some h18 ∧ /- billed -/
                  (27 + 1 ≤ 43 ∧ 1964 + 5 ≤ 2433) ∧ xm_va h18 [some (.ref a0), none] [.ref a0] 1 ∧
                  (28 + 2 ≤ 43 ∧ 1969 + 74 ≤ 2433 ∧ 1 ≤ 45) ∧ xm_va (h18 ++ [.inr (1, xm_df 1)]) [some (.ref a0), none] [.ref (List.length h18), .ref a0] 2 ∧
                  xm_Call K sX1_init 1 [.ref (List.length h18)] (h18 ++ [.inr (1, xm_df 1)]) (xm_pv fun h19 =>
                    ∃ h20, xm_put h19 a0 8 11 (.ref (List.length h18)) = some h20 ∧ /- bodies -/
                    (30 + 1 ≤ 43 ∧ 2043 + 6 ≤ 2433) ∧ xm_va h20 [some (.ref a0), none] [.ref a0] 1 ∧
                    ∃ h21, xm_put (h20 ++ [.inl (4, 6, .inr (.inr (.inr (.inr (fun _ => none)))))]) a0 8 12 (.ref (List.length h20)) = some h21 ∧ /- shelves -/
                    xm_At xm_st K sX8_init sX8_init.1.cls kX8_init 63 31 2049 [some (.ref a0), some (.int (0 : Int32))] [] h21 P))))))))) :
    xm_At xm_st K sX8_init sX8_init.1.cls kX8_init 0 0 0 [some (.ref a0), none] [] h P :=
  xm_run (fun _ _ h => h) oX8_init 64 0 0 0 [some (.ref a0), none] [] h H
set_option maxRecDepth 100000 in
theorem eX8_init {K K' : Nat} (hK : K < K') {h : xm_H} {P : Option Value → xm_H → Prop} {a0 : Nat} (hr : ∃ fs, h[a0]? = some (.inr (8, fs))) (H :
    (0 + 1 ≤ 43 ∧ 0 + 2 ≤ 2433) ∧ xm_va h [some (.ref a0), none] [.ref a0] 1 ∧
    (1 + 1 ≤ 43 ∧ 2 + 67 ≤ 2433 ∧ 2 ≤ 45) ∧ xm_va (h ++ [.inr (7, xm_df 7)]) [some (.ref a0), none] [.ref (List.length h), .ref a0] 1 ∧
    xm_Call K sX7_init 7 [.ref (List.length h)] (h ++ [.inr (7, xm_df 7)]) (xm_pv fun h1 =>
      ∃ h2, xm_put h1 a0 8 0 (.ref (List.length h)) = some h2 ∧ /- now -/
      (2 + 1 ≤ 43 ∧ 69 + 2 ≤ 2433) ∧ xm_va h2 [some (.ref a0), none] [.ref a0] 1 ∧
      (3 + 1 ≤ 43 ∧ 71 + 67 ≤ 2433 ∧ 2 ≤ 45) ∧ xm_va (h2 ++ [.inr (7, xm_df 7)]) [some (.ref a0), none] [.ref (List.length h2), .ref a0] 1 ∧
      xm_Call K sX7_init 7 [.ref (List.length h2)] (h2 ++ [.inr (7, xm_df 7)]) (xm_pv fun h3 =>
        ∃ h4, xm_put h3 a0 8 1 (.ref (List.length h2)) = some h4 ∧ /- thought -/
        (4 + 1 ≤ 43 ∧ 138 + 11 ≤ 2433) ∧ xm_va h4 [some (.ref a0), none] [.ref a0] 1 ∧
        (5 + 7 ≤ 43 ∧ 149 + 289 ≤ 2433 ∧ 1 ≤ 45) ∧ xm_va (h4 ++ [.inr (4, xm_df 4)]) [some (.ref a0), none] [.ref (List.length h4), .ref a0] 7 ∧
        xm_Call K sX4_init 4 [.ref (List.length h4)] (h4 ++ [.inr (4, xm_df 4)]) (xm_pv fun h5 =>
          ∃ h6, xm_put h5 a0 8 2 (.ref (List.length h4)) = some h6 ∧ /- reckoner -/
          (12 + 1 ≤ 43 ∧ 438 + 5 ≤ 2433) ∧ xm_va h6 [some (.ref a0), none] [.ref a0] 1 ∧
          (13 + 2 ≤ 43 ∧ 443 + 248 ≤ 2433 ∧ 1 ≤ 45) ∧ xm_va (h6 ++ [.inr (3, xm_df 3)]) [some (.ref a0), none] [.ref (List.length h6), .ref a0] 2 ∧
          xm_Call K sX3_init 3 [.ref (List.length h6)] (h6 ++ [.inr (3, xm_df 3)]) (xm_pv fun h7 =>
            ∃ h8, xm_put h7 a0 8 3 (.ref (List.length h6)) = some h8 ∧ /- reader -/
            (15 + 1 ≤ 43 ∧ 691 + 5 ≤ 2433) ∧ xm_va h8 [some (.ref a0), none] [.ref a0] 1 ∧
            (16 + 3 ≤ 43 ∧ 696 + 120 ≤ 2433 ∧ 1 ≤ 45) ∧ xm_va (h8 ++ [.inr (2, xm_df 2)]) [some (.ref a0), none] [.ref (List.length h8), .ref a0] 3 ∧
            xm_Call K sX2_init 2 [.ref (List.length h8)] (h8 ++ [.inr (2, xm_df 2)]) (xm_pv fun h9 =>
              ∃ h10, xm_put h9 a0 8 4 (.ref (List.length h8)) = some h10 ∧ /- changes -/
              (19 + 1 ≤ 43 ∧ 816 + 6 ≤ 2433) ∧ xm_va h10 [some (.ref a0), none] [.ref a0] 1 ∧
              ∃ h11, xm_put (h10 ++ [xm_za 0 6]) a0 8 5 (.ref (List.length h10)) = some h11 ∧ /- ledger -/
              (20 + 1 ≤ 43 ∧ 822 + 2 ≤ 2433) ∧ xm_va h11 [some (.ref a0), none] [.ref a0] 1 ∧
              (21 + 1 ≤ 43 ∧ 824 + 67 ≤ 2433 ∧ 2 ≤ 45) ∧ xm_va (h11 ++ [.inr (7, xm_df 7)]) [some (.ref a0), none] [.ref (List.length h11), .ref a0] 1 ∧
              xm_Call K sX7_init 7 [.ref (List.length h11)] (h11 ++ [.inr (7, xm_df 7)]) (xm_pv fun h12 =>
                ∃ h13, xm_put h12 a0 8 6 (.ref (List.length h11)) = some h13 ∧ /- kept -/
                (22 + 1 ≤ 43 ∧ 891 + 6 ≤ 2433) ∧ xm_va h13 [some (.ref a0), none] [.ref a0] 1 ∧
                ∃ h14, xm_put (h13 ++ [xm_za 0 6]) a0 8 7 (.ref (List.length h13)) = some h14 ∧ /- keptLedger -/
                ∃ h15, xm_put h14 a0 8 8 (.int (0 : Int32)) = some h15 ∧ /- imageThere -/
                (23 + 1 ≤ 43 ∧ 897 + 1024 ≤ 2433) ∧ xm_va h15 [some (.ref a0), none] [.ref a0] 1 ∧
                ∃ h16, xm_put (h15 ++ [xm_za 0 1024]) a0 8 9 (.ref (List.length h15)) = some h16 ∧ /- worths -/
                (24 + 1 ≤ 43 ∧ 1921 + 3 ≤ 2433) ∧ xm_va h16 [some (.ref a0), none] [.ref a0] 1 ∧
                (25 + 2 ≤ 43 ∧ 1924 + 40 ≤ 2433 ∧ 1 ≤ 45) ∧ xm_va (h16 ++ [.inr (0, xm_df 0)]) [some (.ref a0), none] [.ref (List.length h16), .ref a0] 2 ∧
                xm_Call K sX0_init 0 [.ref (List.length h16)] (h16 ++ [.inr (0, xm_df 0)]) (xm_pv fun h17 =>
                  ∃ h18, xm_put h17 a0 8 10 (.ref (List.length h16)) = some h18 ∧ /- billed -/
                  (27 + 1 ≤ 43 ∧ 1964 + 5 ≤ 2433) ∧ xm_va h18 [some (.ref a0), none] [.ref a0] 1 ∧
                  (28 + 2 ≤ 43 ∧ 1969 + 74 ≤ 2433 ∧ 1 ≤ 45) ∧ xm_va (h18 ++ [.inr (1, xm_df 1)]) [some (.ref a0), none] [.ref (List.length h18), .ref a0] 2 ∧
                  xm_Call K sX1_init 1 [.ref (List.length h18)] (h18 ++ [.inr (1, xm_df 1)]) (xm_pv fun h19 =>
                    ∃ h20, xm_put h19 a0 8 11 (.ref (List.length h18)) = some h20 ∧ /- bodies -/
                    (30 + 1 ≤ 43 ∧ 2043 + 6 ≤ 2433) ∧ xm_va h20 [some (.ref a0), none] [.ref a0] 1 ∧
                    ∃ h21, xm_put (h20 ++ [.inl (4, 6, .inr (.inr (.inr (.inr (fun _ => none)))))]) a0 8 12 (.ref (List.length h20)) = some h21 ∧ /- shelves -/
                    xm_At xm_st K sX8_init sX8_init.1.cls kX8_init 63 31 2049 [some (.ref a0), some (.int (0 : Int32))] [] h21 P))))))))) :
    xm_Call K' sX8_init 8 [.ref a0] h P :=
  xm_call_of (C := kX8_init) hK (by decide +kernel) rfl (Nat.le_of_ble_eq_true rfl) (Or.inr ⟨a0, hr.choose, rfl, hr.choose_spec⟩) (xX8_init_0 H)

set_option maxRecDepth 100000 in
set_option maxHeartbeats 4000000 in
theorem xX8_init_63 {K : Nat} {h : xm_H} {P : Option Value → xm_H → Prop} {a0 : Nat} {x1 : Int32} {uc us : Nat} (H :
    (if x1 < (6 : Int32) then
      ∃ q1, xm_fld h a0 8 12 = some (.ref q1) ∧ /- shelves -/
      (uc + 1 ≤ 43 ∧ us + 4 ≤ 2433) ∧ xm_va h [some (.ref a0), some (.int x1)] [.int x1, .ref q1] 1 ∧
      ((uc + 1) + 1 ≤ 43 ∧ (us + 4) + 60 ≤ 2433 ∧ 1 ≤ 45) ∧ xm_va (h ++ [.inr (5, xm_df 5)]) [some (.ref a0), some (.int x1)] [.ref (List.length h), .int x1, .ref q1] 1 ∧
      xm_Call K sX5_init 5 [.ref (List.length h)] (h ++ [.inr (5, xm_df 5)]) (xm_pv fun h2 =>
        ∃ h3, xm_stoR h2 q1 x1 (List.length h) = some h3 ∧
        xm_At xm_st K sX8_init sX8_init.1.cls kX8_init 63 ((uc + 1) + 1) ((us + 4) + 60) [some (.ref a0), some (.int (x1 + (1 : Int32)))] [] h3 P)
    else
      P none h)) :
    xm_At xm_st K sX8_init sX8_init.1.cls kX8_init 63 uc us [some (.ref a0), some (.int x1)] [] h P :=
  xm_run (fun _ _ h => h) oX8_init 13 63 uc us [some (.ref a0), some (.int x1)] [] h H

def kX8_person : List xm_I := [
  i_0 0 (.iload_n 1) 1 none,
  i_v 1 (.bipush 10) 2 none 10 [],
  i_0 3 (.idiv) 1 none,
  i_0 4 (.istore_n 2) 1 none,
  i_0 5 (.iload_n 1) 1 none,
  i_v 6 (.bipush 10) 2 none 10 [],
  i_0 8 (.irem) 1 none,
  i_0 9 (.istore_n 3) 1 none,
  i_0 10 (.iload_n 1) 1 none,
  i_j 11 (.ifCond .lt 19) 3 none 18,
  i_v 14 (.iconst 0) 1 none 0 [],
  i_0 15 (.iload_n 2) 1 none,
  i_m 16 (.invokestatic 78) 3 none 2 99 [372, 373, 108, 374] 0 sX8_isWithin,
  i_j 19 (.ifCond .eq 11) 3 none 18,
  i_v 22 (.iconst 3) 1 none 3 [],
  i_0 23 (.iload_n 3) 1 none,
  i_m 24 (.invokestatic 78) 3 none 2 99 [372, 373, 108, 374] 0 sX8_isWithin,
  i_j 27 (.ifCond .ne 5) 3 none 20,
  i_v 30 (.iconst (-1)) 1 none (-1) [],
  i_0 31 (.ireturn) 1 none,
  i_0 32 (.aload_n 0) 1 none,
  i_f 33 (.getfield 10) 3 none 8 0 [328] 1,
  i_0 36 (.iload_n 2) 1 none,
  i_f 37 (.getstatic 82) 3 none 2 0 [379] 0,
  i_v 40 (.iconst 2) 1 none 2 [],
  i_0 41 (.iaload) 1 none,
  i_0 42 (.iload_n 3) 1 none,
  i_m 43 (.invokevirtual 85) 3 none 3 7 [380, 381, 382, 109, 383] 0 sX7_join,
  i_j 46 (.ifCond .eq 15) 3 none 35,
  i_0 49 (.aload_n 0) 1 none,
  i_f 50 (.getfield 10) 3 none 8 0 [328] 1,
  i_f 53 (.getfield 89) 3 none 7 1 [140] 0,
  i_v 56 (.iconst 1) 1 none 1 [],
  i_0 57 (.isub) 1 none,
  i_j 58 (.goto 5) 3 none 36,
  i_v 61 (.bipush (-3)) 2 none (-3) [],
  i_0 63 (.ireturn) 1 none]
set_option maxRecDepth 100000 in
theorem oX8_person : xm_ok sX8_person sX8_person.1.cls kX8_person = true := by decide +kernel
set_option maxRecDepth 100000 in
set_option maxHeartbeats 4000000 in
theorem xX8_person_0 {K : Nat} {h : xm_H} {P : Option Value → xm_H → Prop} {a0 : Nat} {x1 : Int32} (H :
    ¬ (10 : Int32) = 0 ∧
    ¬ (10 : Int32) = 0 ∧
    (if x1 < 0 then
      P (some (.int (-1 : Int32))) h
    else
      xm_Call K sX8_isWithin 99 [.int (0 : Int32), .int (x1 / (10 : Int32))] h (xm_pi fun c2 h1 =>
        (if c2 = 0 then
          P (some (.int (-1 : Int32))) h1
        else
          xm_Call K sX8_isWithin 99 [.int (3 : Int32), .int (x1 - x1 / (10 : Int32) * (10 : Int32))] h1 (xm_pi fun c4 h3 =>
            (if c4 = 0 then
              P (some (.int (-1 : Int32))) h3
            else
              ∃ q5, xm_fld h3 a0 8 0 = some (.ref q5) ∧ /- now -/
              ∃ e6, xm_ld xm_st h3 0 (1000 + 2) (2 : Int32) = some e6 ∧
              xm_Call K sX7_join 7 [.ref q5, .int (x1 / (10 : Int32)), .int e6, .int (x1 - x1 / (10 : Int32) * (10 : Int32))] h3 (xm_pi fun c8 h7 =>
                (if c8 = 0 then
                  P (some (.int (-3 : Int32))) h7
                else
                  ∃ q9, xm_fld h7 a0 8 0 = some (.ref q9) ∧ /- now -/
                  ∃ f10, xm_fld h7 q9 7 1 = some (.int f10) ∧ /- people -/
                  P (some (.int (f10 - (1 : Int32)))) h7)))))))) :
    xm_L K sX8_person kX8_person 0 [some (.ref a0), some (.int x1), none, none] [] h P :=
  xm_run (fun _ _ h => h) oX8_person 35 0 0 0 [some (.ref a0), some (.int x1), none, none] [] h H
set_option maxRecDepth 100000 in
theorem eX8_person {K K' : Nat} (hK : K < K') {h : xm_H} {P : Option Value → xm_H → Prop} {a0 : Nat} {x1 : Int32} (hr : ∃ fs, h[a0]? = some (.inr (8, fs))) (H :
    ¬ (10 : Int32) = 0 ∧
    ¬ (10 : Int32) = 0 ∧
    (if x1 < 0 then
      P (some (.int (-1 : Int32))) h
    else
      xm_Call K sX8_isWithin 99 [.int (0 : Int32), .int (x1 / (10 : Int32))] h (xm_pi fun c2 h1 =>
        (if c2 = 0 then
          P (some (.int (-1 : Int32))) h1
        else
          xm_Call K sX8_isWithin 99 [.int (3 : Int32), .int (x1 - x1 / (10 : Int32) * (10 : Int32))] h1 (xm_pi fun c4 h3 =>
            (if c4 = 0 then
              P (some (.int (-1 : Int32))) h3
            else
              ∃ q5, xm_fld h3 a0 8 0 = some (.ref q5) ∧ /- now -/
              ∃ e6, xm_ld xm_st h3 0 (1000 + 2) (2 : Int32) = some e6 ∧
              xm_Call K sX7_join 7 [.ref q5, .int (x1 / (10 : Int32)), .int e6, .int (x1 - x1 / (10 : Int32) * (10 : Int32))] h3 (xm_pi fun c8 h7 =>
                (if c8 = 0 then
                  P (some (.int (-3 : Int32))) h7
                else
                  ∃ q9, xm_fld h7 a0 8 0 = some (.ref q9) ∧ /- now -/
                  ∃ f10, xm_fld h7 q9 7 1 = some (.int f10) ∧ /- people -/
                  P (some (.int (f10 - (1 : Int32)))) h7)))))))) :
    xm_Call K' sX8_person 8 [.ref a0, .int x1] h P :=
  xm_call_of (C := kX8_person) hK (by decide +kernel) rfl (Nat.le_of_ble_eq_true rfl) (Or.inr ⟨a0, hr.choose, rfl, hr.choose_spec⟩) (xX8_person_0 H)

def kX8_people : List xm_I := [
  i_0 0 (.aload_n 0) 1 none,
  i_0 1 (.iload_n 1) 1 none,
  i_m 2 (.invokevirtual 93) 3 none 1 8 [396, 398, 0, 108, 399] 0 sX8_shelfAt,
  i_0 5 (.astore 4) 2 none,
  i_0 7 (.aload 4) 2 none,
  i_j 9 (.ifnull 14) 3 none 12,
  i_0 12 (.iload_n 3) 1 none,
  i_v 13 (.iconst 1) 1 none 1 [],
  i_j 14 (.if_icmp .lt 9) 3 none 12,
  i_0 17 (.iload_n 3) 1 none,
  i_v 18 (.bipush 8) 2 none 8 [],
  i_j 20 (.if_icmp .le 5) 3 none 14,
  i_v 23 (.iconst (-1)) 1 none (-1) [],
  i_0 24 (.ireturn) 1 none,
  i_0 25 (.aload 4) 2 none,
  i_f 27 (.getfield 97) 3 none 5 0 [311] 0,
  i_v 30 (.iconst (-1)) 1 none (-1) [],
  i_j 31 (.if_icmp .ne 5) 3 none 20,
  i_v 34 (.iconst 0) 1 none 0 [],
  i_0 35 (.ireturn) 1 none,
  i_0 36 (.aload 4) 2 none,
  i_f 38 (.getfield 97) 3 none 5 0 [311] 0,
  i_j 41 (.ifCond .eq 6) 3 none 25,
  i_v 44 (.bipush (-12)) 2 none (-12) [],
  i_0 46 (.ireturn) 1 none,
  i_v 47 (.iconst 0) 1 none 0 [],
  i_0 48 (.istore 5) 2 none,
  i_v 50 (.iconst 0) 1 none 0 [],
  i_0 51 (.istore 6) 2 none,
  i_0 53 (.iload 6) 2 (some [true, false, true, true, true, true, true]),
  i_0 55 (.iload_n 3) 1 none,
  i_j 56 (.if_icmp .ge 45) 3 none 55,
  i_0 59 (.aload 4) 2 none,
  i_0 61 (.iload_n 2) 1 none,
  i_v 62 (.iconst 3) 1 none 3 [],
  i_0 63 (.iload 6) 2 none,
  i_0 65 (.imul) 1 none,
  i_0 66 (.iadd) 1 none,
  i_v 67 (.iconst 3) 1 none 3 [],
  i_m 68 (.invokevirtual 100) 3 none 2 5 [400, 401, 402, 116, 403] 0 sX5_hasPlaces,
  i_j 71 (.ifCond .eq 18) 3 none 50,
  i_0 74 (.aload_n 0) 1 none,
  i_0 75 (.aload 4) 2 none,
  i_0 77 (.iload_n 2) 1 none,
  i_v 78 (.iconst 3) 1 none 3 [],
  i_0 79 (.iload 6) 2 none,
  i_0 81 (.imul) 1 none,
  i_0 82 (.iadd) 1 none,
  i_m 83 (.invokevirtual 103) 3 none 2 8 [404, 406, 1, 108, 407] 0 sX8_joinFromRow,
  i_j 86 (.ifCond .ne 6) 3 none 52,
  i_0 89 (.iload 5) 2 none,
  i_0 91 (.ireturn) 1 none,
  i_v 92 (.iinc 5 1) 3 none 1 [],
  i_v 95 (.iinc 6 1) 3 none 1 [],
  i_j 98 (.goto (-45)) 3 none 29,
  i_0 101 (.iload 5) 2 none,
  i_0 103 (.ireturn) 1 none]
set_option maxRecDepth 100000 in
theorem oX8_people : xm_ok sX8_people sX8_people.1.cls kX8_people = true := by decide +kernel
set_option maxRecDepth 100000 in
set_option maxHeartbeats 4000000 in
theorem xX8_people_0 {K : Nat} {h : xm_H} {P : Option Value → xm_H → Prop} {a0 : Nat} {x1 : Int32} {x2 : Int32} {x3 : Int32} (H :
    xm_Call K sX8_shelfAt 8 [.ref a0, .int x1] h (xm_pq (fun h1 =>
      P (some (.int (-1 : Int32))) h1) (fun q2 h1 =>
      (if x3 < (1 : Int32) then
        P (some (.int (-1 : Int32))) h1
      else
        (if (8 : Int32) < x3 then
          P (some (.int (-1 : Int32))) h1
        else
          ∃ f3, xm_fld h1 q2 5 0 = some (.int f3) ∧ /- sort -/
          (if f3 = (-1 : Int32) then
            P (some (.int (0 : Int32))) h1
          else
            ∃ f4, xm_fld h1 q2 5 0 = some (.int f4) ∧ /- sort -/
            (if f4 = 0 then
              xm_L K sX8_people kX8_people 29 [some (.ref a0), none, some (.int x2), some (.int x3), some (.ref q2), some (.int (0 : Int32)), some (.int (0 : Int32))] [] h1 P
            else
              P (some (.int (-12 : Int32))) h1))))))) :
    xm_L K sX8_people kX8_people 0 [some (.ref a0), some (.int x1), some (.int x2), some (.int x3), none, none, none] [] h P :=
  xm_run (fun _ _ h => h) oX8_people 24 0 0 0 [some (.ref a0), some (.int x1), some (.int x2), some (.int x3), none, none, none] [] h H
set_option maxRecDepth 100000 in
theorem eX8_people {K K' : Nat} (hK : K < K') {h : xm_H} {P : Option Value → xm_H → Prop} {a0 : Nat} {x1 : Int32} {x2 : Int32} {x3 : Int32} (hr : ∃ fs, h[a0]? = some (.inr (8, fs))) (H :
    xm_Call K sX8_shelfAt 8 [.ref a0, .int x1] h (xm_pq (fun h1 =>
      P (some (.int (-1 : Int32))) h1) (fun q2 h1 =>
      (if x3 < (1 : Int32) then
        P (some (.int (-1 : Int32))) h1
      else
        (if (8 : Int32) < x3 then
          P (some (.int (-1 : Int32))) h1
        else
          ∃ f3, xm_fld h1 q2 5 0 = some (.int f3) ∧ /- sort -/
          (if f3 = (-1 : Int32) then
            P (some (.int (0 : Int32))) h1
          else
            ∃ f4, xm_fld h1 q2 5 0 = some (.int f4) ∧ /- sort -/
            (if f4 = 0 then
              xm_L K sX8_people kX8_people 29 [some (.ref a0), none, some (.int x2), some (.int x3), some (.ref q2), some (.int (0 : Int32)), some (.int (0 : Int32))] [] h1 P
            else
              P (some (.int (-12 : Int32))) h1))))))) :
    xm_Call K' sX8_people 8 [.ref a0, .int x1, .int x2, .int x3] h P :=
  xm_call_of (C := kX8_people) hK (by decide +kernel) rfl (Nat.le_of_ble_eq_true rfl) (Or.inr ⟨a0, hr.choose, rfl, hr.choose_spec⟩) (xX8_people_0 H)

set_option maxRecDepth 100000 in
set_option maxHeartbeats 4000000 in
theorem xX8_people_29 {K : Nat} {h : xm_H} {P : Option Value → xm_H → Prop} {a0 : Nat} {x2 : Int32} {x3 : Int32} {a4 : Nat} {x5 : Int32} {x6 : Int32} (H :
    (if x6 < x3 then
      xm_Call K sX5_hasPlaces 5 [.ref a4, .int (x2 + ((3 : Int32) * x6)), .int (3 : Int32)] h (xm_pi fun c2 h1 =>
        (if c2 = 0 then
          P (some (.int x5)) h1
        else
          xm_Call K sX8_joinFromRow 8 [.ref a0, .ref a4, .int (x2 + ((3 : Int32) * x6))] h1 (xm_pi fun c4 h3 =>
            (if c4 = 0 then
              P (some (.int x5)) h3
            else
              xm_L K sX8_people kX8_people 29 [some (.ref a0), none, some (.int x2), some (.int x3), some (.ref a4), some (.int (x5 + (1 : Int32))), some (.int (x6 + (1 : Int32)))] [] h3 P))))
    else
      P (some (.int x5)) h)) :
    xm_L K sX8_people kX8_people 29 [some (.ref a0), none, some (.int x2), some (.int x3), some (.ref a4), some (.int x5), some (.int x6)] [] h P :=
  xm_run (fun _ _ h => h) oX8_people 25 29 0 0 [some (.ref a0), none, some (.int x2), some (.int x3), some (.ref a4), some (.int x5), some (.int x6)] [] h H

def kX8_joinFromRow : List xm_I := [
  i_0 0 (.aload_n 1) 1 none,
  i_0 1 (.iload_n 2) 1 none,
  i_m 2 (.invokevirtual 107) 3 none 1 5 [408, 409, 410, 116, 411] 0 sX5_get,
  i_0 5 (.l2i) 1 none,
  i_0 6 (.istore_n 3) 1 none,
  i_0 7 (.aload_n 1) 1 none,
  i_0 8 (.iload_n 2) 1 none,
  i_v 9 (.iconst 1) 1 none 1 [],
  i_0 10 (.iadd) 1 none,
  i_m 11 (.invokevirtual 107) 3 none 1 5 [408, 409, 410, 116, 411] 0 sX5_get,
  i_0 14 (.l2i) 1 none,
  i_0 15 (.istore 4) 2 none,
  i_0 17 (.aload_n 1) 1 none,
  i_0 18 (.iload_n 2) 1 none,
  i_v 19 (.iconst 2) 1 none 2 [],
  i_0 20 (.iadd) 1 none,
  i_m 21 (.invokevirtual 107) 3 none 1 5 [408, 409, 410, 116, 411] 0 sX5_get,
  i_0 24 (.l2i) 1 none,
  i_0 25 (.istore 5) 2 none,
  i_v 27 (.iconst 0) 1 none 0 [],
  i_0 28 (.iload_n 3) 1 none,
  i_m 29 (.invokestatic 78) 3 none 2 99 [372, 373, 108, 374] 0 sX8_isWithin,
  i_j 32 (.ifCond .eq 40) 3 none 40,
  i_v 35 (.iconst 2) 1 none 2 [],
  i_0 36 (.iload 4) 2 none,
  i_m 38 (.invokestatic 78) 3 none 2 99 [372, 373, 108, 374] 0 sX8_isWithin,
  i_j 41 (.ifCond .eq 31) 3 none 40,
  i_v 44 (.iconst 3) 1 none 3 [],
  i_0 45 (.iload 5) 2 none,
  i_m 47 (.invokestatic 78) 3 none 2 99 [372, 373, 108, 374] 0 sX8_isWithin,
  i_j 50 (.ifCond .eq 22) 3 none 40,
  i_0 53 (.aload_n 0) 1 none,
  i_f 54 (.getfield 10) 3 none 8 0 [328] 1,
  i_0 57 (.iload_n 3) 1 none,
  i_0 58 (.iload 4) 2 none,
  i_0 60 (.iload 5) 2 none,
  i_m 62 (.invokevirtual 85) 3 none 3 7 [380, 381, 382, 109, 383] 0 sX7_join,
  i_j 65 (.ifCond .eq 7) 3 none 40,
  i_v 68 (.iconst 1) 1 none 1 [],
  i_j 69 (.goto 4) 3 none 41,
  i_v 72 (.iconst 0) 1 none 0 [],
  i_0 73 (.ireturn) 1 none]
set_option maxRecDepth 100000 in
theorem oX8_joinFromRow : xm_ok sX8_joinFromRow sX8_joinFromRow.1.cls kX8_joinFromRow = true := by decide +kernel
set_option maxRecDepth 100000 in
set_option maxHeartbeats 4000000 in
theorem xX8_joinFromRow_0 {K : Nat} {h : xm_H} {P : Option Value → xm_H → Prop} {a0 : Nat} {a1 : Nat} {x2 : Int32} (H :
    xm_Call K sX5_get 5 [.ref a1, .int x2] h (xm_pl fun c2 h1 =>
      xm_Call K sX5_get 5 [.ref a1, .int (x2 + (1 : Int32))] h1 (xm_pl fun c4 h3 =>
        xm_Call K sX5_get 5 [.ref a1, .int (x2 + (2 : Int32))] h3 (xm_pl fun c6 h5 =>
          xm_Call K sX8_isWithin 99 [.int (0 : Int32), .int (Int64.toInt32 c2)] h5 (xm_pi fun c8 h7 =>
            (if c8 = 0 then
              P (some (.int (0 : Int32))) h7
            else
              xm_Call K sX8_isWithin 99 [.int (2 : Int32), .int (Int64.toInt32 c4)] h7 (xm_pi fun c10 h9 =>
                (if c10 = 0 then
                  P (some (.int (0 : Int32))) h9
                else
                  xm_Call K sX8_isWithin 99 [.int (3 : Int32), .int (Int64.toInt32 c6)] h9 (xm_pi fun c12 h11 =>
                    (if c12 = 0 then
                      P (some (.int (0 : Int32))) h11
                    else
                      ∃ q13, xm_fld h11 a0 8 0 = some (.ref q13) ∧ /- now -/
                      xm_Call K sX7_join 7 [.ref q13, .int (Int64.toInt32 c2), .int (Int64.toInt32 c4), .int (Int64.toInt32 c6)] h11 (xm_pi fun c15 h14 =>
                        (if c15 = 0 then
                          P (some (.int (0 : Int32))) h14
                        else
                          P (some (.int (1 : Int32))) h14)))))))))))) :
    xm_L K sX8_joinFromRow kX8_joinFromRow 0 [some (.ref a0), some (.ref a1), some (.int x2), none, none, none] [] h P :=
  xm_run (fun _ _ h => h) oX8_joinFromRow 42 0 0 0 [some (.ref a0), some (.ref a1), some (.int x2), none, none, none] [] h H
set_option maxRecDepth 100000 in
theorem eX8_joinFromRow {K K' : Nat} (hK : K < K') {h : xm_H} {P : Option Value → xm_H → Prop} {a0 : Nat} {a1 : Nat} {x2 : Int32} (hr : ∃ fs, h[a0]? = some (.inr (8, fs))) (H :
    xm_Call K sX5_get 5 [.ref a1, .int x2] h (xm_pl fun c2 h1 =>
      xm_Call K sX5_get 5 [.ref a1, .int (x2 + (1 : Int32))] h1 (xm_pl fun c4 h3 =>
        xm_Call K sX5_get 5 [.ref a1, .int (x2 + (2 : Int32))] h3 (xm_pl fun c6 h5 =>
          xm_Call K sX8_isWithin 99 [.int (0 : Int32), .int (Int64.toInt32 c2)] h5 (xm_pi fun c8 h7 =>
            (if c8 = 0 then
              P (some (.int (0 : Int32))) h7
            else
              xm_Call K sX8_isWithin 99 [.int (2 : Int32), .int (Int64.toInt32 c4)] h7 (xm_pi fun c10 h9 =>
                (if c10 = 0 then
                  P (some (.int (0 : Int32))) h9
                else
                  xm_Call K sX8_isWithin 99 [.int (3 : Int32), .int (Int64.toInt32 c6)] h9 (xm_pi fun c12 h11 =>
                    (if c12 = 0 then
                      P (some (.int (0 : Int32))) h11
                    else
                      ∃ q13, xm_fld h11 a0 8 0 = some (.ref q13) ∧ /- now -/
                      xm_Call K sX7_join 7 [.ref q13, .int (Int64.toInt32 c2), .int (Int64.toInt32 c4), .int (Int64.toInt32 c6)] h11 (xm_pi fun c15 h14 =>
                        (if c15 = 0 then
                          P (some (.int (0 : Int32))) h14
                        else
                          P (some (.int (1 : Int32))) h14)))))))))))) :
    xm_Call K' sX8_joinFromRow 8 [.ref a0, .ref a1, .int x2] h P :=
  xm_call_of (C := kX8_joinFromRow) hK (by decide +kernel) rfl (Nat.le_of_ble_eq_true rfl) (Or.inr ⟨a0, hr.choose, rfl, hr.choose_spec⟩) (xX8_joinFromRow_0 H)

def kX8_mend : List xm_I := [
  i_0 0 (.aload_n 0) 1 none,
  i_f 1 (.getfield 10) 3 none 8 0 [328] 1,
  i_0 4 (.iload_n 1) 1 none,
  i_0 5 (.iload_n 2) 1 none,
  i_m 6 (.invokevirtual 111) 3 none 2 7 [416, 389, 390, 109, 391] 0 sX7_cellOf,
  i_0 9 (.istore 4) 2 none,
  i_0 11 (.iload 4) 2 none,
  i_j 13 (.ifCond .lt 11) 3 none 12,
  i_0 16 (.iload_n 2) 1 none,
  i_0 17 (.iload_n 3) 1 none,
  i_m 18 (.invokestatic 78) 3 none 2 99 [372, 373, 108, 374] 0 sX8_isWithin,
  i_j 21 (.ifCond .ne 5) 3 none 14,
  i_v 24 (.iconst (-1)) 1 none (-1) [],
  i_0 25 (.ireturn) 1 none,
  i_0 26 (.aload_n 0) 1 none,
  i_f 27 (.getfield 10) 3 none 8 0 [328] 1,
  i_f 30 (.getfield 115) 3 none 7 0 [138] 1,
  i_0 33 (.iload 4) 2 none,
  i_0 35 (.iaload) 1 none,
  i_0 36 (.istore 5) 2 none,
  i_0 38 (.iload 5) 2 none,
  i_0 40 (.iload_n 3) 1 none,
  i_j 41 (.if_icmp .eq 26) 3 none 35,
  i_0 44 (.aload_n 0) 1 none,
  i_f 45 (.getfield 36) 3 none 8 4 [332] 1,
  i_0 48 (.iload 4) 2 none,
  i_0 50 (.iload 5) 2 none,
  i_0 52 (.iload_n 3) 1 none,
  i_m 53 (.invokevirtual 118) 3 none 3 2 [417, 418, 419, 113, 420] 0 sX2_note,
  i_0 56 (.aload_n 0) 1 none,
  i_f 57 (.getfield 10) 3 none 8 0 [328] 1,
  i_f 60 (.getfield 115) 3 none 7 0 [138] 1,
  i_0 63 (.iload 4) 2 none,
  i_0 65 (.iload_n 3) 1 none,
  i_0 66 (.iastore) 1 none,
  i_0 67 (.iload 5) 2 none,
  i_0 69 (.ireturn) 1 none]
set_option maxRecDepth 100000 in
theorem oX8_mend : xm_ok sX8_mend sX8_mend.1.cls kX8_mend = true := by decide +kernel
set_option maxRecDepth 100000 in
set_option maxHeartbeats 4000000 in
theorem xX8_mend_0 {K : Nat} {h : xm_H} {P : Option Value → xm_H → Prop} {a0 : Nat} {x1 : Int32} {x2 : Int32} {x3 : Int32} (H :
    ∃ q1, xm_fld h a0 8 0 = some (.ref q1) ∧ /- now -/
    xm_Call K sX7_cellOf 7 [.ref q1, .int x1, .int x2] h (xm_pi fun c3 h2 =>
      (if c3 < 0 then
        P (some (.int (-1 : Int32))) h2
      else
        xm_Call K sX8_isWithin 99 [.int x2, .int x3] h2 (xm_pi fun c5 h4 =>
          (if c5 = 0 then
            P (some (.int (-1 : Int32))) h4
          else
            ∃ q6, xm_fld h4 a0 8 0 = some (.ref q6) ∧ /- now -/
            ∃ q7, xm_fld h4 q6 7 0 = some (.ref q7) ∧ /- cells -/
            ∃ e8, xm_ld xm_st h4 0 q7 c3 = some e8 ∧
            (if e8 = x3 then
              P (some (.int e8)) h4
            else
              ∃ q9, xm_fld h4 a0 8 4 = some (.ref q9) ∧ /- changes -/
              xm_Call K sX2_note 2 [.ref q9, .int c3, .int e8, .int x3] h4 (xm_pv fun h10 =>
                ∃ q11, xm_fld h10 a0 8 0 = some (.ref q11) ∧ /- now -/
                ∃ q12, xm_fld h10 q11 7 0 = some (.ref q12) ∧ /- cells -/
                ∃ h13, xm_sto h10 0 q12 c3 x3 = some h13 ∧
                P (some (.int e8)) h13))))))) :
    xm_L K sX8_mend kX8_mend 0 [some (.ref a0), some (.int x1), some (.int x2), some (.int x3), none, none] [] h P :=
  xm_run (fun _ _ h => h) oX8_mend 36 0 0 0 [some (.ref a0), some (.int x1), some (.int x2), some (.int x3), none, none] [] h H
set_option maxRecDepth 100000 in
theorem eX8_mend {K K' : Nat} (hK : K < K') {h : xm_H} {P : Option Value → xm_H → Prop} {a0 : Nat} {x1 : Int32} {x2 : Int32} {x3 : Int32} (hr : ∃ fs, h[a0]? = some (.inr (8, fs))) (H :
    ∃ q1, xm_fld h a0 8 0 = some (.ref q1) ∧ /- now -/
    xm_Call K sX7_cellOf 7 [.ref q1, .int x1, .int x2] h (xm_pi fun c3 h2 =>
      (if c3 < 0 then
        P (some (.int (-1 : Int32))) h2
      else
        xm_Call K sX8_isWithin 99 [.int x2, .int x3] h2 (xm_pi fun c5 h4 =>
          (if c5 = 0 then
            P (some (.int (-1 : Int32))) h4
          else
            ∃ q6, xm_fld h4 a0 8 0 = some (.ref q6) ∧ /- now -/
            ∃ q7, xm_fld h4 q6 7 0 = some (.ref q7) ∧ /- cells -/
            ∃ e8, xm_ld xm_st h4 0 q7 c3 = some e8 ∧
            (if e8 = x3 then
              P (some (.int e8)) h4
            else
              ∃ q9, xm_fld h4 a0 8 4 = some (.ref q9) ∧ /- changes -/
              xm_Call K sX2_note 2 [.ref q9, .int c3, .int e8, .int x3] h4 (xm_pv fun h10 =>
                ∃ q11, xm_fld h10 a0 8 0 = some (.ref q11) ∧ /- now -/
                ∃ q12, xm_fld h10 q11 7 0 = some (.ref q12) ∧ /- cells -/
                ∃ h13, xm_sto h10 0 q12 c3 x3 = some h13 ∧
                P (some (.int e8)) h13))))))) :
    xm_Call K' sX8_mend 8 [.ref a0, .int x1, .int x2, .int x3] h P :=
  xm_call_of (C := kX8_mend) hK (by decide +kernel) rfl (Nat.le_of_ble_eq_true rfl) (Or.inr ⟨a0, hr.choose, rfl, hr.choose_spec⟩) (xX8_mend_0 H)

def kX8_of : List xm_I := [
  i_0 0 (.aload_n 0) 1 none,
  i_f 1 (.getfield 10) 3 none 8 0 [328] 1,
  i_0 4 (.iload_n 1) 1 none,
  i_0 5 (.iload_n 2) 1 none,
  i_m 6 (.invokevirtual 111) 3 none 2 7 [416, 389, 390, 109, 391] 0 sX7_cellOf,
  i_0 9 (.istore_n 3) 1 none,
  i_0 10 (.iload_n 3) 1 none,
  i_j 11 (.ifCond .ge 7) 3 none 10,
  i_v 14 (.iconst (-1)) 1 none (-1) [],
  i_j 15 (.goto 12) 3 none 15,
  i_0 18 (.aload_n 0) 1 none,
  i_f 19 (.getfield 10) 3 none 8 0 [328] 1,
  i_f 22 (.getfield 115) 3 none 7 0 [138] 1,
  i_0 25 (.iload_n 3) 1 none,
  i_0 26 (.iaload) 1 none,
  i_0 27 (.ireturn) 1 none]
set_option maxRecDepth 100000 in
theorem oX8_of : xm_ok sX8_of sX8_of.1.cls kX8_of = true := by decide +kernel
set_option maxRecDepth 100000 in
set_option maxHeartbeats 4000000 in
theorem xX8_of_0 {K : Nat} {h : xm_H} {P : Option Value → xm_H → Prop} {a0 : Nat} {x1 : Int32} {x2 : Int32} (H :
    ∃ q1, xm_fld h a0 8 0 = some (.ref q1) ∧ /- now -/
    xm_Call K sX7_cellOf 7 [.ref q1, .int x1, .int x2] h (xm_pi fun c3 h2 =>
      (if c3 < 0 then
        P (some (.int (-1 : Int32))) h2
      else
        ∃ q4, xm_fld h2 a0 8 0 = some (.ref q4) ∧ /- now -/
        ∃ q5, xm_fld h2 q4 7 0 = some (.ref q5) ∧ /- cells -/
        ∃ e6, xm_ld xm_st h2 0 q5 c3 = some e6 ∧
        P (some (.int e6)) h2))) :
    xm_L K sX8_of kX8_of 0 [some (.ref a0), some (.int x1), some (.int x2), none] [] h P :=
  xm_run (fun _ _ h => h) oX8_of 15 0 0 0 [some (.ref a0), some (.int x1), some (.int x2), none] [] h H
set_option maxRecDepth 100000 in
theorem eX8_of {K K' : Nat} (hK : K < K') {h : xm_H} {P : Option Value → xm_H → Prop} {a0 : Nat} {x1 : Int32} {x2 : Int32} (hr : ∃ fs, h[a0]? = some (.inr (8, fs))) (H :
    ∃ q1, xm_fld h a0 8 0 = some (.ref q1) ∧ /- now -/
    xm_Call K sX7_cellOf 7 [.ref q1, .int x1, .int x2] h (xm_pi fun c3 h2 =>
      (if c3 < 0 then
        P (some (.int (-1 : Int32))) h2
      else
        ∃ q4, xm_fld h2 a0 8 0 = some (.ref q4) ∧ /- now -/
        ∃ q5, xm_fld h2 q4 7 0 = some (.ref q5) ∧ /- cells -/
        ∃ e6, xm_ld xm_st h2 0 q5 c3 = some e6 ∧
        P (some (.int e6)) h2))) :
    xm_Call K' sX8_of 8 [.ref a0, .int x1, .int x2] h P :=
  xm_call_of (C := kX8_of) hK (by decide +kernel) rfl (Nat.le_of_ble_eq_true rfl) (Or.inr ⟨a0, hr.choose, rfl, hr.choose_spec⟩) (xX8_of_0 H)

def kX8_feed : List xm_I := [
  i_0 0 (.iload_n 1) 1 none,
  i_j 1 (.ifCond .lt 10) 3 none 5,
  i_0 4 (.iload_n 1) 1 none,
  i_v 5 (.sipush 255) 3 none 255 [],
  i_j 8 (.if_icmp .le 5) 3 none 7,
  i_v 11 (.iconst (-1)) 1 none (-1) [],
  i_0 12 (.ireturn) 1 none,
  i_0 13 (.aload_n 0) 1 none,
  i_f 14 (.getfield 29) 3 none 8 3 [331] 1,
  i_0 17 (.iload_n 1) 1 none,
  i_m 18 (.invokevirtual 122) 3 none 1 3 [436, 437, 438, 112, 439] 0 sX3_hold,
  i_j 21 (.ifCond .eq 13) 3 none 16,
  i_0 24 (.aload_n 0) 1 none,
  i_f 25 (.getfield 29) 3 none 8 3 [331] 1,
  i_f 28 (.getfield 126) 3 none 3 1 [219] 0,
  i_j 31 (.goto 5) 3 none 17,
  i_v 34 (.bipush (-3)) 2 none (-3) [],
  i_0 36 (.ireturn) 1 none]
set_option maxRecDepth 100000 in
theorem oX8_feed : xm_ok sX8_feed sX8_feed.1.cls kX8_feed = true := by decide +kernel
set_option maxRecDepth 100000 in
set_option maxHeartbeats 4000000 in
theorem xX8_feed_0 {K : Nat} {h : xm_H} {P : Option Value → xm_H → Prop} {a0 : Nat} {x1 : Int32} (H :
    (if x1 < 0 then
      P (some (.int (-1 : Int32))) h
    else
      (if (255 : Int32) < x1 then
        P (some (.int (-1 : Int32))) h
      else
        ∃ q1, xm_fld h a0 8 3 = some (.ref q1) ∧ /- reader -/
        xm_Call K sX3_hold 3 [.ref q1, .int x1] h (xm_pi fun c3 h2 =>
          (if c3 = 0 then
            P (some (.int (-3 : Int32))) h2
          else
            ∃ q4, xm_fld h2 a0 8 3 = some (.ref q4) ∧ /- reader -/
            ∃ f5, xm_fld h2 q4 3 1 = some (.int f5) ∧ /- fed -/
            P (some (.int f5)) h2))))) :
    xm_L K sX8_feed kX8_feed 0 [some (.ref a0), some (.int x1)] [] h P :=
  xm_run (fun _ _ h => h) oX8_feed 16 0 0 0 [some (.ref a0), some (.int x1)] [] h H
set_option maxRecDepth 100000 in
theorem eX8_feed {K K' : Nat} (hK : K < K') {h : xm_H} {P : Option Value → xm_H → Prop} {a0 : Nat} {x1 : Int32} (hr : ∃ fs, h[a0]? = some (.inr (8, fs))) (H :
    (if x1 < 0 then
      P (some (.int (-1 : Int32))) h
    else
      (if (255 : Int32) < x1 then
        P (some (.int (-1 : Int32))) h
      else
        ∃ q1, xm_fld h a0 8 3 = some (.ref q1) ∧ /- reader -/
        xm_Call K sX3_hold 3 [.ref q1, .int x1] h (xm_pi fun c3 h2 =>
          (if c3 = 0 then
            P (some (.int (-3 : Int32))) h2
          else
            ∃ q4, xm_fld h2 a0 8 3 = some (.ref q4) ∧ /- reader -/
            ∃ f5, xm_fld h2 q4 3 1 = some (.int f5) ∧ /- fed -/
            P (some (.int f5)) h2))))) :
    xm_Call K' sX8_feed 8 [.ref a0, .int x1] h P :=
  xm_call_of (C := kX8_feed) hK (by decide +kernel) rfl (Nat.le_of_ble_eq_true rfl) (Or.inr ⟨a0, hr.choose, rfl, hr.choose_spec⟩) (xX8_feed_0 H)

def kX8_law : List xm_I := [
  i_0 0 (.aload_n 0) 1 none,
  i_f 1 (.getfield 29) 3 none 8 3 [331] 1,
  i_m 4 (.invokevirtual 129) 3 none 0 3 [444, 445, 446, 112, 447] 0 sX3_readText,
  i_0 7 (.istore_n 1) 1 none,
  i_0 8 (.aload_n 0) 1 none,
  i_f 9 (.getfield 29) 3 none 8 3 [331] 1,
  i_v 12 (.iconst 0) 1 none 0 [],
  i_f 13 (.putfield 126) 3 none 3 1 [219] 0,
  i_0 16 (.iload_n 1) 1 none,
  i_j 17 (.ifCond .ne 14) 3 none 16,
  i_v 20 (.bipush (-100)) 2 none (-100) [],
  i_0 22 (.aload_n 0) 1 none,
  i_f 23 (.getfield 29) 3 none 8 3 [331] 1,
  i_f 26 (.getfield 133) 3 none 3 2 [221] 0,
  i_0 29 (.isub) 1 none,
  i_0 30 (.ireturn) 1 none,
  i_0 31 (.aload_n 0) 1 none,
  i_f 32 (.getfield 22) 3 none 8 2 [330] 1,
  i_f 35 (.getfield 136) 3 none 4 0 [171] 1,
  i_0 38 (.aload_n 0) 1 none,
  i_f 39 (.getfield 29) 3 none 8 3 [331] 1,
  i_f 42 (.getfield 140) 3 none 3 3 [223] 1,
  i_0 45 (.aload_n 0) 1 none,
  i_f 46 (.getfield 29) 3 none 8 3 [331] 1,
  i_f 49 (.getfield 143) 3 none 3 4 [225] 0,
  i_m 52 (.invokevirtual 146) 3 none 2 6 [485, 486, 487, 111, 488] 0 sX6_become,
  i_v 55 (.iconst 1) 1 none 1 [],
  i_0 56 (.ireturn) 1 none]
set_option maxRecDepth 100000 in
theorem oX8_law : xm_ok sX8_law sX8_law.1.cls kX8_law = true := by decide +kernel
set_option maxRecDepth 100000 in
set_option maxHeartbeats 4000000 in
theorem xX8_law_0 {K : Nat} {h : xm_H} {P : Option Value → xm_H → Prop} {a0 : Nat} (H :
    ∃ q1, xm_fld h a0 8 3 = some (.ref q1) ∧ /- reader -/
    xm_Call K sX3_readText 3 [.ref q1] h (xm_pi fun c3 h2 =>
      ∃ q4, xm_fld h2 a0 8 3 = some (.ref q4) ∧ /- reader -/
      ∃ h5, xm_put h2 q4 3 1 (.int (0 : Int32)) = some h5 ∧ /- fed -/
      (if c3 = 0 then
        ∃ q6, xm_fld h5 a0 8 3 = some (.ref q6) ∧ /- reader -/
        ∃ f7, xm_fld h5 q6 3 2 = some (.int f7) ∧ /- place -/
        P (some (.int ((-100 : Int32) - f7))) h5
      else
        ∃ q8, xm_fld h5 a0 8 2 = some (.ref q8) ∧ /- reckoner -/
        ∃ q9, xm_fld h5 q8 4 0 = some (.ref q9) ∧ /- text -/
        ∃ q10, xm_fld h5 a0 8 3 = some (.ref q10) ∧ /- reader -/
        ∃ q11, xm_fld h5 q10 3 3 = some (.ref q11) ∧ /- code -/
        ∃ q12, xm_fld h5 a0 8 3 = some (.ref q12) ∧ /- reader -/
        ∃ f13, xm_fld h5 q12 3 4 = some (.int f13) ∧ /- length -/
        xm_Call K sX6_become 6 [.ref q9, .ref q11, .int f13] h5 (xm_pv fun h14 =>
          P (some (.int (1 : Int32))) h14)))) :
    xm_L K sX8_law kX8_law 0 [some (.ref a0), none] [] h P :=
  xm_run (fun _ _ h => h) oX8_law 23 0 0 0 [some (.ref a0), none] [] h H
set_option maxRecDepth 100000 in
theorem eX8_law {K K' : Nat} (hK : K < K') {h : xm_H} {P : Option Value → xm_H → Prop} {a0 : Nat} (hr : ∃ fs, h[a0]? = some (.inr (8, fs))) (H :
    ∃ q1, xm_fld h a0 8 3 = some (.ref q1) ∧ /- reader -/
    xm_Call K sX3_readText 3 [.ref q1] h (xm_pi fun c3 h2 =>
      ∃ q4, xm_fld h2 a0 8 3 = some (.ref q4) ∧ /- reader -/
      ∃ h5, xm_put h2 q4 3 1 (.int (0 : Int32)) = some h5 ∧ /- fed -/
      (if c3 = 0 then
        ∃ q6, xm_fld h5 a0 8 3 = some (.ref q6) ∧ /- reader -/
        ∃ f7, xm_fld h5 q6 3 2 = some (.int f7) ∧ /- place -/
        P (some (.int ((-100 : Int32) - f7))) h5
      else
        ∃ q8, xm_fld h5 a0 8 2 = some (.ref q8) ∧ /- reckoner -/
        ∃ q9, xm_fld h5 q8 4 0 = some (.ref q9) ∧ /- text -/
        ∃ q10, xm_fld h5 a0 8 3 = some (.ref q10) ∧ /- reader -/
        ∃ q11, xm_fld h5 q10 3 3 = some (.ref q11) ∧ /- code -/
        ∃ q12, xm_fld h5 a0 8 3 = some (.ref q12) ∧ /- reader -/
        ∃ f13, xm_fld h5 q12 3 4 = some (.int f13) ∧ /- length -/
        xm_Call K sX6_become 6 [.ref q9, .ref q11, .int f13] h5 (xm_pv fun h14 =>
          P (some (.int (1 : Int32))) h14)))) :
    xm_Call K' sX8_law 8 [.ref a0] h P :=
  xm_call_of (C := kX8_law) hK (by decide +kernel) rfl (Nat.le_of_ble_eq_true rfl) (Or.inr ⟨a0, hr.choose, rfl, hr.choose_spec⟩) (xX8_law_0 H)

def kX8_counts : List xm_I := [
  i_0 0 (.aload_n 0) 1 none,
  i_f 1 (.getfield 10) 3 none 8 0 [328] 1,
  i_0 4 (.iload_n 1) 1 none,
  i_m 5 (.invokevirtual 152) 3 none 1 7 [500, 501, 502, 109, 503] 0 sX7_has,
  i_j 8 (.ifCond .ne 5) 3 none 7,
  i_v 11 (.iconst (-1)) 1 none (-1) [],
  i_0 12 (.ireturn) 1 none,
  i_0 13 (.aload_n 0) 1 none,
  i_f 14 (.getfield 22) 3 none 8 2 [330] 1,
  i_0 17 (.aload_n 0) 1 none,
  i_f 18 (.getfield 10) 3 none 8 0 [328] 1,
  i_m 21 (.invokevirtual 155) 3 none 1 4 [504, 505, 506, 110, 507] 0 sX4_look,
  i_0 24 (.aload_n 0) 1 none,
  i_f 25 (.getfield 22) 3 none 8 2 [330] 1,
  i_0 28 (.aload_n 0) 1 none,
  i_f 29 (.getfield 10) 3 none 8 0 [328] 1,
  i_0 32 (.iload_n 1) 1 none,
  i_m 33 (.invokevirtual 159) 3 none 2 4 [518, 519, 520, 110, 521] 0 sX4_countsOf,
  i_0 36 (.ireturn) 1 none]
set_option maxRecDepth 100000 in
theorem oX8_counts : xm_ok sX8_counts sX8_counts.1.cls kX8_counts = true := by decide +kernel
set_option maxRecDepth 100000 in
set_option maxHeartbeats 4000000 in
theorem xX8_counts_0 {K : Nat} {h : xm_H} {P : Option Value → xm_H → Prop} {a0 : Nat} {x1 : Int32} (H :
    ∃ q1, xm_fld h a0 8 0 = some (.ref q1) ∧ /- now -/
    xm_Call K sX7_has 7 [.ref q1, .int x1] h (xm_pi fun c3 h2 =>
      (if c3 = 0 then
        P (some (.int (-1 : Int32))) h2
      else
        ∃ q4, xm_fld h2 a0 8 2 = some (.ref q4) ∧ /- reckoner -/
        ∃ q5, xm_fld h2 a0 8 0 = some (.ref q5) ∧ /- now -/
        xm_Call K sX4_look 4 [.ref q4, .ref q5] h2 (xm_pv fun h6 =>
          ∃ q7, xm_fld h6 a0 8 2 = some (.ref q7) ∧ /- reckoner -/
          ∃ q8, xm_fld h6 a0 8 0 = some (.ref q8) ∧ /- now -/
          xm_Call K sX4_countsOf 4 [.ref q7, .ref q8, .int x1] h6 (xm_pi fun c10 h9 =>
            P (some (.int c10)) h9))))) :
    xm_L K sX8_counts kX8_counts 0 [some (.ref a0), some (.int x1)] [] h P :=
  xm_run (fun _ _ h => h) oX8_counts 18 0 0 0 [some (.ref a0), some (.int x1)] [] h H
set_option maxRecDepth 100000 in
theorem eX8_counts {K K' : Nat} (hK : K < K') {h : xm_H} {P : Option Value → xm_H → Prop} {a0 : Nat} {x1 : Int32} (hr : ∃ fs, h[a0]? = some (.inr (8, fs))) (H :
    ∃ q1, xm_fld h a0 8 0 = some (.ref q1) ∧ /- now -/
    xm_Call K sX7_has 7 [.ref q1, .int x1] h (xm_pi fun c3 h2 =>
      (if c3 = 0 then
        P (some (.int (-1 : Int32))) h2
      else
        ∃ q4, xm_fld h2 a0 8 2 = some (.ref q4) ∧ /- reckoner -/
        ∃ q5, xm_fld h2 a0 8 0 = some (.ref q5) ∧ /- now -/
        xm_Call K sX4_look 4 [.ref q4, .ref q5] h2 (xm_pv fun h6 =>
          ∃ q7, xm_fld h6 a0 8 2 = some (.ref q7) ∧ /- reckoner -/
          ∃ q8, xm_fld h6 a0 8 0 = some (.ref q8) ∧ /- now -/
          xm_Call K sX4_countsOf 4 [.ref q7, .ref q8, .int x1] h6 (xm_pi fun c10 h9 =>
            P (some (.int c10)) h9))))) :
    xm_Call K' sX8_counts 8 [.ref a0, .int x1] h P :=
  xm_call_of (C := kX8_counts) hK (by decide +kernel) rfl (Nat.le_of_ble_eq_true rfl) (Or.inr ⟨a0, hr.choose, rfl, hr.choose_spec⟩) (xX8_counts_0 H)

def kX8_bill : List xm_I := [
  i_0 0 (.iload_n 1) 1 none,
  i_j 1 (.ifCond .eq 10) 3 none 7,
  i_0 4 (.iload_n 1) 1 none,
  i_v 5 (.iconst 1) 1 none 1 [],
  i_j 6 (.if_icmp .eq 5) 3 none 7,
  i_v 9 (.iconst (-1)) 1 none (-1) [],
  i_0 10 (.ireturn) 1 none,
  i_0 11 (.aload_n 0) 1 none,
  i_f 12 (.getfield 22) 3 none 8 2 [330] 1,
  i_0 15 (.aload_n 0) 1 none,
  i_f 16 (.getfield 10) 3 none 8 0 [328] 1,
  i_m 19 (.invokevirtual 163) 3 none 1 4 [546, 547, 548, 110, 549] 0 sX4_reckon,
  i_0 22 (.iload_n 1) 1 none,
  i_j 23 (.ifCond .ne 13) 3 none 18,
  i_0 26 (.aload_n 0) 1 none,
  i_f 27 (.getfield 22) 3 none 8 2 [330] 1,
  i_f 30 (.getfield 166) 3 none 4 7 [181] 0,
  i_j 33 (.goto 18) 3 none 25,
  i_0 36 (.aload_n 0) 1 none,
  i_f 37 (.getfield 22) 3 none 8 2 [330] 1,
  i_f 40 (.getfield 166) 3 none 4 7 [181] 0,
  i_0 43 (.aload_n 0) 1 none,
  i_f 44 (.getfield 22) 3 none 8 2 [330] 1,
  i_f 47 (.getfield 169) 3 none 4 9 [185] 0,
  i_0 50 (.isub) 1 none,
  i_0 51 (.ireturn) 1 none]
set_option maxRecDepth 100000 in
theorem oX8_bill : xm_ok sX8_bill sX8_bill.1.cls kX8_bill = true := by decide +kernel
set_option maxRecDepth 100000 in
set_option maxHeartbeats 4000000 in
theorem xX8_bill_0 {K : Nat} {h : xm_H} {P : Option Value → xm_H → Prop} {a0 : Nat} {x1 : Int32} (H :
    (if x1 = 0 then
      ∃ q1, xm_fld h a0 8 2 = some (.ref q1) ∧ /- reckoner -/
      ∃ q2, xm_fld h a0 8 0 = some (.ref q2) ∧ /- now -/
      xm_Call K sX4_reckon 4 [.ref q1, .ref q2] h (xm_pv fun h3 =>
        (if x1 = 0 then
          ∃ q4, xm_fld h3 a0 8 2 = some (.ref q4) ∧ /- reckoner -/
          ∃ f5, xm_fld h3 q4 4 7 = some (.int f5) ∧ /- whole -/
          P (some (.int f5)) h3
        else
          ∃ q6, xm_fld h3 a0 8 2 = some (.ref q6) ∧ /- reckoner -/
          ∃ f7, xm_fld h3 q6 4 7 = some (.int f7) ∧ /- whole -/
          ∃ q8, xm_fld h3 a0 8 2 = some (.ref q8) ∧ /- reckoner -/
          ∃ f9, xm_fld h3 q8 4 9 = some (.int f9) ∧ /- paid -/
          P (some (.int (f7 - f9))) h3))
    else
      (if x1 = (1 : Int32) then
        ∃ q10, xm_fld h a0 8 2 = some (.ref q10) ∧ /- reckoner -/
        ∃ q11, xm_fld h a0 8 0 = some (.ref q11) ∧ /- now -/
        xm_Call K sX4_reckon 4 [.ref q10, .ref q11] h (xm_pv fun h12 =>
          (if x1 = 0 then
            ∃ q13, xm_fld h12 a0 8 2 = some (.ref q13) ∧ /- reckoner -/
            ∃ f14, xm_fld h12 q13 4 7 = some (.int f14) ∧ /- whole -/
            P (some (.int f14)) h12
          else
            ∃ q15, xm_fld h12 a0 8 2 = some (.ref q15) ∧ /- reckoner -/
            ∃ f16, xm_fld h12 q15 4 7 = some (.int f16) ∧ /- whole -/
            ∃ q17, xm_fld h12 a0 8 2 = some (.ref q17) ∧ /- reckoner -/
            ∃ f18, xm_fld h12 q17 4 9 = some (.int f18) ∧ /- paid -/
            P (some (.int (f16 - f18))) h12))
      else
        P (some (.int (-1 : Int32))) h))) :
    xm_L K sX8_bill kX8_bill 0 [some (.ref a0), some (.int x1)] [] h P :=
  xm_run (fun _ _ h => h) oX8_bill 21 0 0 0 [some (.ref a0), some (.int x1)] [] h H
set_option maxRecDepth 100000 in
theorem eX8_bill {K K' : Nat} (hK : K < K') {h : xm_H} {P : Option Value → xm_H → Prop} {a0 : Nat} {x1 : Int32} (hr : ∃ fs, h[a0]? = some (.inr (8, fs))) (H :
    (if x1 = 0 then
      ∃ q1, xm_fld h a0 8 2 = some (.ref q1) ∧ /- reckoner -/
      ∃ q2, xm_fld h a0 8 0 = some (.ref q2) ∧ /- now -/
      xm_Call K sX4_reckon 4 [.ref q1, .ref q2] h (xm_pv fun h3 =>
        (if x1 = 0 then
          ∃ q4, xm_fld h3 a0 8 2 = some (.ref q4) ∧ /- reckoner -/
          ∃ f5, xm_fld h3 q4 4 7 = some (.int f5) ∧ /- whole -/
          P (some (.int f5)) h3
        else
          ∃ q6, xm_fld h3 a0 8 2 = some (.ref q6) ∧ /- reckoner -/
          ∃ f7, xm_fld h3 q6 4 7 = some (.int f7) ∧ /- whole -/
          ∃ q8, xm_fld h3 a0 8 2 = some (.ref q8) ∧ /- reckoner -/
          ∃ f9, xm_fld h3 q8 4 9 = some (.int f9) ∧ /- paid -/
          P (some (.int (f7 - f9))) h3))
    else
      (if x1 = (1 : Int32) then
        ∃ q10, xm_fld h a0 8 2 = some (.ref q10) ∧ /- reckoner -/
        ∃ q11, xm_fld h a0 8 0 = some (.ref q11) ∧ /- now -/
        xm_Call K sX4_reckon 4 [.ref q10, .ref q11] h (xm_pv fun h12 =>
          (if x1 = 0 then
            ∃ q13, xm_fld h12 a0 8 2 = some (.ref q13) ∧ /- reckoner -/
            ∃ f14, xm_fld h12 q13 4 7 = some (.int f14) ∧ /- whole -/
            P (some (.int f14)) h12
          else
            ∃ q15, xm_fld h12 a0 8 2 = some (.ref q15) ∧ /- reckoner -/
            ∃ f16, xm_fld h12 q15 4 7 = some (.int f16) ∧ /- whole -/
            ∃ q17, xm_fld h12 a0 8 2 = some (.ref q17) ∧ /- reckoner -/
            ∃ f18, xm_fld h12 q17 4 9 = some (.int f18) ∧ /- paid -/
            P (some (.int (f16 - f18))) h12))
      else
        P (some (.int (-1 : Int32))) h))) :
    xm_Call K' sX8_bill 8 [.ref a0, .int x1] h P :=
  xm_call_of (C := kX8_bill) hK (by decide +kernel) rfl (Nat.le_of_ble_eq_true rfl) (Or.inr ⟨a0, hr.choose, rfl, hr.choose_spec⟩) (xX8_bill_0 H)

def kX8_share : List xm_I := [
  i_0 0 (.aload_n 0) 1 none,
  i_f 1 (.getfield 10) 3 none 8 0 [328] 1,
  i_0 4 (.iload_n 1) 1 none,
  i_m 5 (.invokevirtual 152) 3 none 1 7 [500, 501, 502, 109, 503] 0 sX7_has,
  i_j 8 (.ifCond .ne 5) 3 none 7,
  i_v 11 (.iconst (-1)) 1 none (-1) [],
  i_0 12 (.ireturn) 1 none,
  i_0 13 (.aload_n 0) 1 none,
  i_f 14 (.getfield 22) 3 none 8 2 [330] 1,
  i_0 17 (.aload_n 0) 1 none,
  i_f 18 (.getfield 10) 3 none 8 0 [328] 1,
  i_m 21 (.invokevirtual 163) 3 none 1 4 [546, 547, 548, 110, 549] 0 sX4_reckon,
  i_0 24 (.aload_n 0) 1 none,
  i_f 25 (.getfield 22) 3 none 8 2 [330] 1,
  i_f 28 (.getfield 172) 3 none 4 4 [177] 1,
  i_0 31 (.iload_n 1) 1 none,
  i_0 32 (.iaload) 1 none,
  i_0 33 (.ireturn) 1 none]
set_option maxRecDepth 100000 in
theorem oX8_share : xm_ok sX8_share sX8_share.1.cls kX8_share = true := by decide +kernel
set_option maxRecDepth 100000 in
set_option maxHeartbeats 4000000 in
theorem xX8_share_0 {K : Nat} {h : xm_H} {P : Option Value → xm_H → Prop} {a0 : Nat} {x1 : Int32} (H :
    ∃ q1, xm_fld h a0 8 0 = some (.ref q1) ∧ /- now -/
    xm_Call K sX7_has 7 [.ref q1, .int x1] h (xm_pi fun c3 h2 =>
      (if c3 = 0 then
        P (some (.int (-1 : Int32))) h2
      else
        ∃ q4, xm_fld h2 a0 8 2 = some (.ref q4) ∧ /- reckoner -/
        ∃ q5, xm_fld h2 a0 8 0 = some (.ref q5) ∧ /- now -/
        xm_Call K sX4_reckon 4 [.ref q4, .ref q5] h2 (xm_pv fun h6 =>
          ∃ q7, xm_fld h6 a0 8 2 = some (.ref q7) ∧ /- reckoner -/
          ∃ q8, xm_fld h6 q7 4 4 = some (.ref q8) ∧ /- shares -/
          ∃ e9, xm_ld xm_st h6 0 q8 x1 = some e9 ∧
          P (some (.int e9)) h6)))) :
    xm_L K sX8_share kX8_share 0 [some (.ref a0), some (.int x1)] [] h P :=
  xm_run (fun _ _ h => h) oX8_share 17 0 0 0 [some (.ref a0), some (.int x1)] [] h H
set_option maxRecDepth 100000 in
theorem eX8_share {K K' : Nat} (hK : K < K') {h : xm_H} {P : Option Value → xm_H → Prop} {a0 : Nat} {x1 : Int32} (hr : ∃ fs, h[a0]? = some (.inr (8, fs))) (H :
    ∃ q1, xm_fld h a0 8 0 = some (.ref q1) ∧ /- now -/
    xm_Call K sX7_has 7 [.ref q1, .int x1] h (xm_pi fun c3 h2 =>
      (if c3 = 0 then
        P (some (.int (-1 : Int32))) h2
      else
        ∃ q4, xm_fld h2 a0 8 2 = some (.ref q4) ∧ /- reckoner -/
        ∃ q5, xm_fld h2 a0 8 0 = some (.ref q5) ∧ /- now -/
        xm_Call K sX4_reckon 4 [.ref q4, .ref q5] h2 (xm_pv fun h6 =>
          ∃ q7, xm_fld h6 a0 8 2 = some (.ref q7) ∧ /- reckoner -/
          ∃ q8, xm_fld h6 q7 4 4 = some (.ref q8) ∧ /- shares -/
          ∃ e9, xm_ld xm_st h6 0 q8 x1 = some e9 ∧
          P (some (.int e9)) h6)))) :
    xm_Call K' sX8_share 8 [.ref a0, .int x1] h P :=
  xm_call_of (C := kX8_share) hK (by decide +kernel) rfl (Nat.le_of_ble_eq_true rfl) (Or.inr ⟨a0, hr.choose, rfl, hr.choose_spec⟩) (xX8_share_0 H)

def kX8_worth : List xm_I := [
  i_0 0 (.aload_n 0) 1 none,
  i_f 1 (.getfield 10) 3 none 8 0 [328] 1,
  i_0 4 (.iload_n 1) 1 none,
  i_m 5 (.invokevirtual 152) 3 none 1 7 [500, 501, 502, 109, 503] 0 sX7_has,
  i_j 8 (.ifCond .ne 6) 3 none 7,
  i_v 11 (.ldc 175) 2 none (-2000000000) [574],
  i_0 13 (.ireturn) 1 none,
  i_0 14 (.aload_n 0) 1 none,
  i_f 15 (.getfield 22) 3 none 8 2 [330] 1,
  i_0 18 (.aload_n 0) 1 none,
  i_f 19 (.getfield 10) 3 none 8 0 [328] 1,
  i_m 22 (.invokevirtual 163) 3 none 1 4 [546, 547, 548, 110, 549] 0 sX4_reckon,
  i_0 25 (.aload_n 0) 1 none,
  i_f 26 (.getfield 22) 3 none 8 2 [330] 1,
  i_0 29 (.aload_n 0) 1 none,
  i_f 30 (.getfield 10) 3 none 8 0 [328] 1,
  i_0 33 (.iload_n 1) 1 none,
  i_m 34 (.invokevirtual 176) 3 none 2 4 [575, 576, 577, 110, 578] 0 sX4_worthOf,
  i_0 37 (.ireturn) 1 none]
set_option maxRecDepth 100000 in
theorem oX8_worth : xm_ok sX8_worth sX8_worth.1.cls kX8_worth = true := by decide +kernel
set_option maxRecDepth 100000 in
set_option maxHeartbeats 4000000 in
theorem xX8_worth_0 {K : Nat} {h : xm_H} {P : Option Value → xm_H → Prop} {a0 : Nat} {x1 : Int32} (H :
    ∃ q1, xm_fld h a0 8 0 = some (.ref q1) ∧ /- now -/
    xm_Call K sX7_has 7 [.ref q1, .int x1] h (xm_pi fun c3 h2 =>
      (if c3 = 0 then
        P (some (.int (-2000000000 : Int32))) h2
      else
        ∃ q4, xm_fld h2 a0 8 2 = some (.ref q4) ∧ /- reckoner -/
        ∃ q5, xm_fld h2 a0 8 0 = some (.ref q5) ∧ /- now -/
        xm_Call K sX4_reckon 4 [.ref q4, .ref q5] h2 (xm_pv fun h6 =>
          ∃ q7, xm_fld h6 a0 8 2 = some (.ref q7) ∧ /- reckoner -/
          ∃ q8, xm_fld h6 a0 8 0 = some (.ref q8) ∧ /- now -/
          xm_Call K sX4_worthOf 4 [.ref q7, .ref q8, .int x1] h6 (xm_pi fun c10 h9 =>
            P (some (.int c10)) h9))))) :
    xm_L K sX8_worth kX8_worth 0 [some (.ref a0), some (.int x1)] [] h P :=
  xm_run (fun _ _ h => h) oX8_worth 18 0 0 0 [some (.ref a0), some (.int x1)] [] h H
set_option maxRecDepth 100000 in
theorem eX8_worth {K K' : Nat} (hK : K < K') {h : xm_H} {P : Option Value → xm_H → Prop} {a0 : Nat} {x1 : Int32} (hr : ∃ fs, h[a0]? = some (.inr (8, fs))) (H :
    ∃ q1, xm_fld h a0 8 0 = some (.ref q1) ∧ /- now -/
    xm_Call K sX7_has 7 [.ref q1, .int x1] h (xm_pi fun c3 h2 =>
      (if c3 = 0 then
        P (some (.int (-2000000000 : Int32))) h2
      else
        ∃ q4, xm_fld h2 a0 8 2 = some (.ref q4) ∧ /- reckoner -/
        ∃ q5, xm_fld h2 a0 8 0 = some (.ref q5) ∧ /- now -/
        xm_Call K sX4_reckon 4 [.ref q4, .ref q5] h2 (xm_pv fun h6 =>
          ∃ q7, xm_fld h6 a0 8 2 = some (.ref q7) ∧ /- reckoner -/
          ∃ q8, xm_fld h6 a0 8 0 = some (.ref q8) ∧ /- now -/
          xm_Call K sX4_worthOf 4 [.ref q7, .ref q8, .int x1] h6 (xm_pi fun c10 h9 =>
            P (some (.int c10)) h9))))) :
    xm_Call K' sX8_worth 8 [.ref a0, .int x1] h P :=
  xm_call_of (C := kX8_worth) hK (by decide +kernel) rfl (Nat.le_of_ble_eq_true rfl) (Or.inr ⟨a0, hr.choose, rfl, hr.choose_spec⟩) (xX8_worth_0 H)

def kX8_best : List xm_I := [
  i_0 0 (.aload_n 0) 1 none,
  i_f 1 (.getfield 10) 3 none 8 0 [328] 1,
  i_0 4 (.iload_n 1) 1 none,
  i_m 5 (.invokevirtual 152) 3 none 1 7 [500, 501, 502, 109, 503] 0 sX7_has,
  i_j 8 (.ifCond .eq 12) 3 none 10,
  i_0 11 (.iload_n 2) 1 none,
  i_j 12 (.ifCond .eq 11) 3 none 12,
  i_0 15 (.iload_n 2) 1 none,
  i_v 16 (.iconst 1) 1 none 1 [],
  i_j 17 (.if_icmp .eq 6) 3 none 12,
  i_v 20 (.ldc 175) 2 none (-2000000000) [574],
  i_0 22 (.ireturn) 1 none,
  i_v 23 (.iconst 0) 1 none 0 [],
  i_0 24 (.istore_n 3) 1 none,
  i_0 25 (.aload_n 0) 1 none,
  i_0 26 (.iload_n 1) 1 none,
  i_v 27 (.iconst 0) 1 none 0 [],
  i_m 28 (.invokevirtual 179) 3 none 2 8 [591, 593, 7, 108, 594] 0 sX8_worthBy,
  i_0 31 (.istore 4) 2 none,
  i_v 33 (.iconst 1) 1 none 1 [],
  i_0 34 (.istore 5) 2 none,
  i_0 36 (.iload 5) 2 (some [true, true, true, true, true, true, false]),
  i_v 38 (.iconst 4) 1 none 4 [],
  i_j 39 (.if_icmp .ge 32) 3 none 38,
  i_0 42 (.aload_n 0) 1 none,
  i_0 43 (.iload_n 1) 1 none,
  i_0 44 (.iload 5) 2 none,
  i_m 46 (.invokevirtual 179) 3 none 2 8 [591, 593, 7, 108, 594] 0 sX8_worthBy,
  i_0 49 (.istore 6) 2 none,
  i_0 51 (.iload 6) 2 none,
  i_0 53 (.iload 4) 2 none,
  i_j 55 (.if_icmp .le 10) 3 none 36,
  i_0 58 (.iload 5) 2 none,
  i_0 60 (.istore_n 3) 1 none,
  i_0 61 (.iload 6) 2 none,
  i_0 63 (.istore 4) 2 none,
  i_v 65 (.iinc 5 1) 3 none 1 [],
  i_j 68 (.goto (-32)) 3 none 21,
  i_0 71 (.iload_n 2) 1 none,
  i_j 72 (.ifCond .ne 7) 3 none 42,
  i_0 75 (.iload_n 3) 1 none,
  i_j 76 (.goto 5) 3 none 43,
  i_0 79 (.iload 4) 2 none,
  i_0 81 (.ireturn) 1 none]
set_option maxRecDepth 100000 in
theorem oX8_best : xm_ok sX8_best sX8_best.1.cls kX8_best = true := by decide +kernel
set_option maxRecDepth 100000 in
set_option maxHeartbeats 4000000 in
theorem xX8_best_0 {K : Nat} {h : xm_H} {P : Option Value → xm_H → Prop} {a0 : Nat} {x1 : Int32} {x2 : Int32} (H :
    ∃ q1, xm_fld h a0 8 0 = some (.ref q1) ∧ /- now -/
    xm_Call K sX7_has 7 [.ref q1, .int x1] h (xm_pi fun c3 h2 =>
      (if c3 = 0 then
        P (some (.int (-2000000000 : Int32))) h2
      else
        (if x2 = 0 then
          xm_Call K sX8_worthBy 8 [.ref a0, .int x1, .int (0 : Int32)] h2 (xm_pi fun c5 h4 =>
            xm_L K sX8_best kX8_best 21 [some (.ref a0), some (.int x1), some (.int x2), some (.int (0 : Int32)), some (.int c5), some (.int (1 : Int32)), none] [] h4 P)
        else
          (if x2 = (1 : Int32) then
            xm_Call K sX8_worthBy 8 [.ref a0, .int x1, .int (0 : Int32)] h2 (xm_pi fun c7 h6 =>
              xm_L K sX8_best kX8_best 21 [some (.ref a0), some (.int x1), some (.int x2), some (.int (0 : Int32)), some (.int c7), some (.int (1 : Int32)), none] [] h6 P)
          else
            P (some (.int (-2000000000 : Int32))) h2))))) :
    xm_L K sX8_best kX8_best 0 [some (.ref a0), some (.int x1), some (.int x2), none, none, none, none] [] h P :=
  xm_run (fun _ _ h => h) oX8_best 20 0 0 0 [some (.ref a0), some (.int x1), some (.int x2), none, none, none, none] [] h H
set_option maxRecDepth 100000 in
theorem eX8_best {K K' : Nat} (hK : K < K') {h : xm_H} {P : Option Value → xm_H → Prop} {a0 : Nat} {x1 : Int32} {x2 : Int32} (hr : ∃ fs, h[a0]? = some (.inr (8, fs))) (H :
    ∃ q1, xm_fld h a0 8 0 = some (.ref q1) ∧ /- now -/
    xm_Call K sX7_has 7 [.ref q1, .int x1] h (xm_pi fun c3 h2 =>
      (if c3 = 0 then
        P (some (.int (-2000000000 : Int32))) h2
      else
        (if x2 = 0 then
          xm_Call K sX8_worthBy 8 [.ref a0, .int x1, .int (0 : Int32)] h2 (xm_pi fun c5 h4 =>
            xm_L K sX8_best kX8_best 21 [some (.ref a0), some (.int x1), some (.int x2), some (.int (0 : Int32)), some (.int c5), some (.int (1 : Int32)), none] [] h4 P)
        else
          (if x2 = (1 : Int32) then
            xm_Call K sX8_worthBy 8 [.ref a0, .int x1, .int (0 : Int32)] h2 (xm_pi fun c7 h6 =>
              xm_L K sX8_best kX8_best 21 [some (.ref a0), some (.int x1), some (.int x2), some (.int (0 : Int32)), some (.int c7), some (.int (1 : Int32)), none] [] h6 P)
          else
            P (some (.int (-2000000000 : Int32))) h2))))) :
    xm_Call K' sX8_best 8 [.ref a0, .int x1, .int x2] h P :=
  xm_call_of (C := kX8_best) hK (by decide +kernel) rfl (Nat.le_of_ble_eq_true rfl) (Or.inr ⟨a0, hr.choose, rfl, hr.choose_spec⟩) (xX8_best_0 H)

set_option maxRecDepth 100000 in
set_option maxHeartbeats 4000000 in
theorem xX8_best_21 {K : Nat} {h : xm_H} {P : Option Value → xm_H → Prop} {a0 : Nat} {x1 : Int32} {x2 : Int32} {x3 : Int32} {x4 : Int32} {x5 : Int32} (H :
    (if x5 < (4 : Int32) then
      xm_Call K sX8_worthBy 8 [.ref a0, .int x1, .int x5] h (xm_pi fun c2 h1 =>
        (if x4 < c2 then
          xm_L K sX8_best kX8_best 21 [some (.ref a0), some (.int x1), some (.int x2), some (.int x5), some (.int c2), some (.int (x5 + (1 : Int32))), none] [] h1 P
        else
          xm_L K sX8_best kX8_best 21 [some (.ref a0), some (.int x1), some (.int x2), some (.int x3), some (.int x4), some (.int (x5 + (1 : Int32))), none] [] h1 P))
    else
      (if x2 = 0 then
        P (some (.int x3)) h
      else
        P (some (.int x4)) h))) :
    xm_L K sX8_best kX8_best 21 [some (.ref a0), some (.int x1), some (.int x2), some (.int x3), some (.int x4), some (.int x5), none] [] h P :=
  xm_run (fun _ _ h => h) oX8_best 18 21 0 0 [some (.ref a0), some (.int x1), some (.int x2), some (.int x3), some (.int x4), some (.int x5), none] [] h H

def kX8_worthBy : List xm_I := [
  i_0 0 (.aload_n 0) 1 none,
  i_f 1 (.getfield 16) 3 none 8 1 [329] 1,
  i_0 4 (.aload_n 0) 1 none,
  i_f 5 (.getfield 10) 3 none 8 0 [328] 1,
  i_m 8 (.invokevirtual 182) 3 none 1 7 [595, 596, 597, 109, 598] 0 sX7_copy,
  i_0 11 (.aload_n 0) 1 none,
  i_f 12 (.getfield 16) 3 none 8 1 [329] 1,
  i_0 15 (.iload_n 1) 1 none,
  i_v 16 (.iconst 3) 1 none 3 [],
  i_0 17 (.iload_n 2) 1 none,
  i_m 18 (.invokevirtual 185) 3 none 3 7 [600, 385, 386, 109, 387] 0 sX7_set,
  i_0 21 (.aload_n 0) 1 none,
  i_f 22 (.getfield 22) 3 none 8 2 [330] 1,
  i_0 25 (.aload_n 0) 1 none,
  i_f 26 (.getfield 16) 3 none 8 1 [329] 1,
  i_m 29 (.invokevirtual 163) 3 none 1 4 [546, 547, 548, 110, 549] 0 sX4_reckon,
  i_0 32 (.aload_n 0) 1 none,
  i_f 33 (.getfield 22) 3 none 8 2 [330] 1,
  i_0 36 (.aload_n 0) 1 none,
  i_f 37 (.getfield 16) 3 none 8 1 [329] 1,
  i_0 40 (.iload_n 1) 1 none,
  i_m 41 (.invokevirtual 176) 3 none 2 4 [575, 576, 577, 110, 578] 0 sX4_worthOf,
  i_0 44 (.ireturn) 1 none]
set_option maxRecDepth 100000 in
theorem oX8_worthBy : xm_ok sX8_worthBy sX8_worthBy.1.cls kX8_worthBy = true := by decide +kernel
set_option maxRecDepth 100000 in
set_option maxHeartbeats 4000000 in
theorem xX8_worthBy_0 {K : Nat} {h : xm_H} {P : Option Value → xm_H → Prop} {a0 : Nat} {x1 : Int32} {x2 : Int32} (H :
    ∃ q1, xm_fld h a0 8 1 = some (.ref q1) ∧ /- thought -/
    ∃ q2, xm_fld h a0 8 0 = some (.ref q2) ∧ /- now -/
    xm_Call K sX7_copy 7 [.ref q1, .ref q2] h (xm_pv fun h3 =>
      ∃ q4, xm_fld h3 a0 8 1 = some (.ref q4) ∧ /- thought -/
      xm_Call K sX7_set 7 [.ref q4, .int x1, .int (3 : Int32), .int x2] h3 (xm_pv fun h5 =>
        ∃ q6, xm_fld h5 a0 8 2 = some (.ref q6) ∧ /- reckoner -/
        ∃ q7, xm_fld h5 a0 8 1 = some (.ref q7) ∧ /- thought -/
        xm_Call K sX4_reckon 4 [.ref q6, .ref q7] h5 (xm_pv fun h8 =>
          ∃ q9, xm_fld h8 a0 8 2 = some (.ref q9) ∧ /- reckoner -/
          ∃ q10, xm_fld h8 a0 8 1 = some (.ref q10) ∧ /- thought -/
          xm_Call K sX4_worthOf 4 [.ref q9, .ref q10, .int x1] h8 (xm_pi fun c12 h11 =>
            P (some (.int c12)) h11))))) :
    xm_L K sX8_worthBy kX8_worthBy 0 [some (.ref a0), some (.int x1), some (.int x2)] [] h P :=
  xm_run (fun _ _ h => h) oX8_worthBy 24 0 0 0 [some (.ref a0), some (.int x1), some (.int x2)] [] h H
set_option maxRecDepth 100000 in
theorem eX8_worthBy {K K' : Nat} (hK : K < K') {h : xm_H} {P : Option Value → xm_H → Prop} {a0 : Nat} {x1 : Int32} {x2 : Int32} (hr : ∃ fs, h[a0]? = some (.inr (8, fs))) (H :
    ∃ q1, xm_fld h a0 8 1 = some (.ref q1) ∧ /- thought -/
    ∃ q2, xm_fld h a0 8 0 = some (.ref q2) ∧ /- now -/
    xm_Call K sX7_copy 7 [.ref q1, .ref q2] h (xm_pv fun h3 =>
      ∃ q4, xm_fld h3 a0 8 1 = some (.ref q4) ∧ /- thought -/
      xm_Call K sX7_set 7 [.ref q4, .int x1, .int (3 : Int32), .int x2] h3 (xm_pv fun h5 =>
        ∃ q6, xm_fld h5 a0 8 2 = some (.ref q6) ∧ /- reckoner -/
        ∃ q7, xm_fld h5 a0 8 1 = some (.ref q7) ∧ /- thought -/
        xm_Call K sX4_reckon 4 [.ref q6, .ref q7] h5 (xm_pv fun h8 =>
          ∃ q9, xm_fld h8 a0 8 2 = some (.ref q9) ∧ /- reckoner -/
          ∃ q10, xm_fld h8 a0 8 1 = some (.ref q10) ∧ /- thought -/
          xm_Call K sX4_worthOf 4 [.ref q9, .ref q10, .int x1] h8 (xm_pi fun c12 h11 =>
            P (some (.int c12)) h11))))) :
    xm_Call K' sX8_worthBy 8 [.ref a0, .int x1, .int x2] h P :=
  xm_call_of (C := kX8_worthBy) hK (by decide +kernel) rfl (Nat.le_of_ble_eq_true rfl) (Or.inr ⟨a0, hr.choose, rfl, hr.choose_spec⟩) (xX8_worthBy_0 H)

def kX8_atRest : List xm_I := [
  i_v 0 (.iconst 0) 1 none 0 [],
  i_0 1 (.istore_n 1) 1 none,
  i_0 2 (.iload_n 1) 1 (some [true, true, false, false]),
  i_0 3 (.aload_n 0) 1 none,
  i_f 4 (.getfield 10) 3 none 8 0 [328] 1,
  i_f 7 (.getfield 89) 3 none 7 1 [140] 0,
  i_j 10 (.if_icmp .ge 49) 3 none 33,
  i_0 13 (.aload_n 0) 1 none,
  i_0 14 (.iload_n 1) 1 none,
  i_0 15 (.aload_n 0) 1 none,
  i_f 16 (.getfield 10) 3 none 8 0 [328] 1,
  i_0 19 (.iload_n 1) 1 none,
  i_v 20 (.iconst 3) 1 none 3 [],
  i_m 21 (.invokevirtual 188) 3 none 2 7 [605, 509, 510, 109, 511] 0 sX7_get,
  i_m 24 (.invokevirtual 179) 3 none 2 8 [591, 593, 7, 108, 594] 0 sX8_worthBy,
  i_0 27 (.istore_n 2) 1 none,
  i_v 28 (.iconst 0) 1 none 0 [],
  i_0 29 (.istore_n 3) 1 none,
  i_0 30 (.iload_n 3) 1 (some [true, true, true, true]),
  i_v 31 (.iconst 4) 1 none 4 [],
  i_j 32 (.if_icmp .ge 21) 3 none 31,
  i_0 35 (.aload_n 0) 1 none,
  i_0 36 (.iload_n 1) 1 none,
  i_0 37 (.iload_n 3) 1 none,
  i_m 38 (.invokevirtual 179) 3 none 2 8 [591, 593, 7, 108, 594] 0 sX8_worthBy,
  i_0 41 (.iload_n 2) 1 none,
  i_j 42 (.if_icmp .le 5) 3 none 29,
  i_v 45 (.iconst 0) 1 none 0 [],
  i_0 46 (.ireturn) 1 none,
  i_v 47 (.iinc 3 1) 3 none 1 [],
  i_j 50 (.goto (-20)) 3 none 18,
  i_v 53 (.iinc 1 1) 3 none 1 [],
  i_j 56 (.goto (-54)) 3 none 2,
  i_v 59 (.iconst 1) 1 none 1 [],
  i_0 60 (.ireturn) 1 none]
set_option maxRecDepth 100000 in
theorem oX8_atRest : xm_ok sX8_atRest sX8_atRest.1.cls kX8_atRest = true := by decide +kernel
set_option maxRecDepth 100000 in
set_option maxHeartbeats 4000000 in
theorem xX8_atRest_0 {K : Nat} {h : xm_H} {P : Option Value → xm_H → Prop} {a0 : Nat} (H :
    xm_L K sX8_atRest kX8_atRest 2 [some (.ref a0), some (.int (0 : Int32)), none, none] [] h P) :
    xm_L K sX8_atRest kX8_atRest 0 [some (.ref a0), none, none, none] [] h P :=
  xm_run (fun _ _ h => h) oX8_atRest 3 0 0 0 [some (.ref a0), none, none, none] [] h H
set_option maxRecDepth 100000 in
theorem eX8_atRest {K K' : Nat} (hK : K < K') {h : xm_H} {P : Option Value → xm_H → Prop} {a0 : Nat} (hr : ∃ fs, h[a0]? = some (.inr (8, fs))) (H :
    xm_L K sX8_atRest kX8_atRest 2 [some (.ref a0), some (.int (0 : Int32)), none, none] [] h P) :
    xm_Call K' sX8_atRest 8 [.ref a0] h P :=
  xm_call_of (C := kX8_atRest) hK (by decide +kernel) rfl (Nat.le_of_ble_eq_true rfl) (Or.inr ⟨a0, hr.choose, rfl, hr.choose_spec⟩) (xX8_atRest_0 H)

set_option maxRecDepth 100000 in
set_option maxHeartbeats 4000000 in
theorem xX8_atRest_2 {K : Nat} {h : xm_H} {P : Option Value → xm_H → Prop} {a0 : Nat} {x1 : Int32} (H :
    ∃ q1, xm_fld h a0 8 0 = some (.ref q1) ∧ /- now -/
    ∃ f2, xm_fld h q1 7 1 = some (.int f2) ∧ /- people -/
    (if x1 < f2 then
      ∃ q3, xm_fld h a0 8 0 = some (.ref q3) ∧ /- now -/
      xm_Call K sX7_get 7 [.ref q3, .int x1, .int (3 : Int32)] h (xm_pi fun c5 h4 =>
        xm_Call K sX8_worthBy 8 [.ref a0, .int x1, .int c5] h4 (xm_pi fun c7 h6 =>
          xm_L K sX8_atRest kX8_atRest 18 [some (.ref a0), some (.int x1), some (.int c7), some (.int (0 : Int32))] [] h6 P))
    else
      P (some (.int (1 : Int32))) h)) :
    xm_L K sX8_atRest kX8_atRest 2 [some (.ref a0), some (.int x1), none, none] [] h P :=
  xm_run (fun _ _ h => h) oX8_atRest 17 2 0 0 [some (.ref a0), some (.int x1), none, none] [] h H

set_option maxRecDepth 100000 in
set_option maxHeartbeats 4000000 in
theorem xX8_atRest_18 {K : Nat} {h : xm_H} {P : Option Value → xm_H → Prop} {a0 : Nat} {x1 : Int32} {x2 : Int32} {x3 : Int32} (H :
    (if x3 < (4 : Int32) then
      xm_Call K sX8_worthBy 8 [.ref a0, .int x1, .int x3] h (xm_pi fun c2 h1 =>
        (if x2 < c2 then
          P (some (.int (0 : Int32))) h1
        else
          xm_L K sX8_atRest kX8_atRest 18 [some (.ref a0), some (.int x1), some (.int x2), some (.int (x3 + (1 : Int32)))] [] h1 P))
    else
      xm_L K sX8_atRest kX8_atRest 2 [some (.ref a0), some (.int (x1 + (1 : Int32))), none, none] [] h P)) :
    xm_L K sX8_atRest kX8_atRest 18 [some (.ref a0), some (.int x1), some (.int x2), some (.int x3)] [] h P :=
  xm_run (fun _ _ h => h) oX8_atRest 12 18 0 0 [some (.ref a0), some (.int x1), some (.int x2), some (.int x3)] [] h H

def kX8_rest : List xm_I := [
  i_0 0 (.iload_n 1) 1 none,
  i_v 1 (.iconst (-1)) 1 none (-1) [],
  i_j 2 (.if_icmp .eq 16) 3 none 10,
  i_0 5 (.aload_n 0) 1 none,
  i_f 6 (.getfield 10) 3 none 8 0 [328] 1,
  i_0 9 (.iload_n 1) 1 none,
  i_m 10 (.invokevirtual 152) 3 none 1 7 [500, 501, 502, 109, 503] 0 sX7_has,
  i_j 13 (.ifCond .ne 5) 3 none 10,
  i_v 16 (.iconst (-1)) 1 none (-1) [],
  i_0 17 (.ireturn) 1 none,
  i_0 18 (.aload_n 0) 1 none,
  i_f 19 (.getfield 10) 3 none 8 0 [328] 1,
  i_f 22 (.getfield 89) 3 none 7 1 [140] 0,
  i_v 25 (.iconst 4) 1 none 4 [],
  i_j 26 (.if_icmp .le 6) 3 none 17,
  i_v 29 (.bipush (-5)) 2 none (-5) [],
  i_0 31 (.ireturn) 1 none,
  i_v 32 (.iconst 1) 1 none 1 [],
  i_v 33 (.iconst 2) 1 none 2 [],
  i_0 34 (.aload_n 0) 1 none,
  i_f 35 (.getfield 10) 3 none 8 0 [328] 1,
  i_f 38 (.getfield 89) 3 none 7 1 [140] 0,
  i_0 41 (.imul) 1 none,
  i_0 42 (.ishl) 1 none,
  i_0 43 (.istore_n 2) 1 none,
  i_0 44 (.aload_n 0) 1 none,
  i_0 45 (.iload_n 2) 1 none,
  i_m 46 (.invokevirtual 190) 3 none 1 8 [610, 612, 8, 108, 613] 0 sX8_fillWorths,
  i_v 49 (.iconst 0) 1 none 0 [],
  i_0 50 (.istore_n 3) 1 none,
  i_v 51 (.iconst 0) 1 none 0 [],
  i_0 52 (.istore 4) 2 none,
  i_0 54 (.iload 4) 2 (some [true, true, true, true, true]),
  i_0 56 (.iload_n 2) 1 none,
  i_j 57 (.if_icmp .ge 33) 3 none 49,
  i_0 60 (.aload_n 0) 1 none,
  i_0 61 (.iload 4) 2 none,
  i_m 63 (.invokevirtual 194) 3 none 1 8 [626, 628, 12, 108, 629] 0 sX8_isRowAtRest,
  i_j 66 (.ifCond .eq 18) 3 none 47,
  i_0 69 (.iload_n 1) 1 none,
  i_j 70 (.ifCond .lt 11) 3 none 46,
  i_0 73 (.aload_n 0) 1 none,
  i_0 74 (.iload 4) 2 none,
  i_0 76 (.iload_n 1) 1 none,
  i_m 77 (.invokevirtual 197) 3 none 2 8 [614, 616, 9, 108, 617] 0 sX8_habitIn,
  i_0 80 (.ireturn) 1 none,
  i_v 81 (.iinc 3 1) 3 none 1 [],
  i_v 84 (.iinc 4 1) 3 none 1 [],
  i_j 87 (.goto (-33)) 3 none 32,
  i_0 90 (.iload_n 1) 1 none,
  i_j 91 (.ifCond .lt 8) 3 none 53,
  i_v 94 (.bipush (-2)) 2 none (-2) [],
  i_j 96 (.goto 4) 3 none 54,
  i_0 99 (.iload_n 3) 1 none,
  i_0 100 (.ireturn) 1 none]
set_option maxRecDepth 100000 in
theorem oX8_rest : xm_ok sX8_rest sX8_rest.1.cls kX8_rest = true := by decide +kernel
set_option maxRecDepth 100000 in
set_option maxHeartbeats 4000000 in
theorem xX8_rest_0 {K : Nat} {h : xm_H} {P : Option Value → xm_H → Prop} {a0 : Nat} {x1 : Int32} (H :
    (if x1 = (-1 : Int32) then
      ∃ q1, xm_fld h a0 8 0 = some (.ref q1) ∧ /- now -/
      ∃ f2, xm_fld h q1 7 1 = some (.int f2) ∧ /- people -/
      (if (4 : Int32) < f2 then
        P (some (.int (-5 : Int32))) h
      else
        ∃ q3, xm_fld h a0 8 0 = some (.ref q3) ∧ /- now -/
        ∃ f4, xm_fld h q3 7 1 = some (.int f4) ∧ /- people -/
        xm_Call K sX8_fillWorths 8 [.ref a0, .int ((1 : Int32) <<< (((2 : Int32) * f4) &&& 31))] h (xm_pv fun h5 =>
          xm_L K sX8_rest kX8_rest 32 [some (.ref a0), some (.int x1), some (.int ((1 : Int32) <<< (((2 : Int32) * f4) &&& 31))), some (.int (0 : Int32)), some (.int (0 : Int32))] [] h5 P))
    else
      ∃ q6, xm_fld h a0 8 0 = some (.ref q6) ∧ /- now -/
      xm_Call K sX7_has 7 [.ref q6, .int x1] h (xm_pi fun c8 h7 =>
        (if c8 = 0 then
          P (some (.int (-1 : Int32))) h7
        else
          ∃ q9, xm_fld h7 a0 8 0 = some (.ref q9) ∧ /- now -/
          ∃ f10, xm_fld h7 q9 7 1 = some (.int f10) ∧ /- people -/
          (if (4 : Int32) < f10 then
            P (some (.int (-5 : Int32))) h7
          else
            ∃ q11, xm_fld h7 a0 8 0 = some (.ref q11) ∧ /- now -/
            ∃ f12, xm_fld h7 q11 7 1 = some (.int f12) ∧ /- people -/
            xm_Call K sX8_fillWorths 8 [.ref a0, .int ((1 : Int32) <<< (((2 : Int32) * f12) &&& 31))] h7 (xm_pv fun h13 =>
              xm_L K sX8_rest kX8_rest 32 [some (.ref a0), some (.int x1), some (.int ((1 : Int32) <<< (((2 : Int32) * f12) &&& 31))), some (.int (0 : Int32)), some (.int (0 : Int32))] [] h13 P)))))) :
    xm_L K sX8_rest kX8_rest 0 [some (.ref a0), some (.int x1), none, none, none] [] h P :=
  xm_run (fun _ _ h => h) oX8_rest 29 0 0 0 [some (.ref a0), some (.int x1), none, none, none] [] h H
set_option maxRecDepth 100000 in
theorem eX8_rest {K K' : Nat} (hK : K < K') {h : xm_H} {P : Option Value → xm_H → Prop} {a0 : Nat} {x1 : Int32} (hr : ∃ fs, h[a0]? = some (.inr (8, fs))) (H :
    (if x1 = (-1 : Int32) then
      ∃ q1, xm_fld h a0 8 0 = some (.ref q1) ∧ /- now -/
      ∃ f2, xm_fld h q1 7 1 = some (.int f2) ∧ /- people -/
      (if (4 : Int32) < f2 then
        P (some (.int (-5 : Int32))) h
      else
        ∃ q3, xm_fld h a0 8 0 = some (.ref q3) ∧ /- now -/
        ∃ f4, xm_fld h q3 7 1 = some (.int f4) ∧ /- people -/
        xm_Call K sX8_fillWorths 8 [.ref a0, .int ((1 : Int32) <<< (((2 : Int32) * f4) &&& 31))] h (xm_pv fun h5 =>
          xm_L K sX8_rest kX8_rest 32 [some (.ref a0), some (.int x1), some (.int ((1 : Int32) <<< (((2 : Int32) * f4) &&& 31))), some (.int (0 : Int32)), some (.int (0 : Int32))] [] h5 P))
    else
      ∃ q6, xm_fld h a0 8 0 = some (.ref q6) ∧ /- now -/
      xm_Call K sX7_has 7 [.ref q6, .int x1] h (xm_pi fun c8 h7 =>
        (if c8 = 0 then
          P (some (.int (-1 : Int32))) h7
        else
          ∃ q9, xm_fld h7 a0 8 0 = some (.ref q9) ∧ /- now -/
          ∃ f10, xm_fld h7 q9 7 1 = some (.int f10) ∧ /- people -/
          (if (4 : Int32) < f10 then
            P (some (.int (-5 : Int32))) h7
          else
            ∃ q11, xm_fld h7 a0 8 0 = some (.ref q11) ∧ /- now -/
            ∃ f12, xm_fld h7 q11 7 1 = some (.int f12) ∧ /- people -/
            xm_Call K sX8_fillWorths 8 [.ref a0, .int ((1 : Int32) <<< (((2 : Int32) * f12) &&& 31))] h7 (xm_pv fun h13 =>
              xm_L K sX8_rest kX8_rest 32 [some (.ref a0), some (.int x1), some (.int ((1 : Int32) <<< (((2 : Int32) * f12) &&& 31))), some (.int (0 : Int32)), some (.int (0 : Int32))] [] h13 P)))))) :
    xm_Call K' sX8_rest 8 [.ref a0, .int x1] h P :=
  xm_call_of (C := kX8_rest) hK (by decide +kernel) rfl (Nat.le_of_ble_eq_true rfl) (Or.inr ⟨a0, hr.choose, rfl, hr.choose_spec⟩) (xX8_rest_0 H)

set_option maxRecDepth 100000 in
set_option maxHeartbeats 4000000 in
theorem xX8_rest_32 {K : Nat} {h : xm_H} {P : Option Value → xm_H → Prop} {a0 : Nat} {x1 : Int32} {x2 : Int32} {x3 : Int32} {x4 : Int32} (H :
    (if x4 < x2 then
      xm_Call K sX8_isRowAtRest 8 [.ref a0, .int x4] h (xm_pi fun c2 h1 =>
        (if c2 = 0 then
          xm_L K sX8_rest kX8_rest 32 [some (.ref a0), some (.int x1), some (.int x2), some (.int x3), some (.int (x4 + (1 : Int32)))] [] h1 P
        else
          (if x1 < 0 then
            xm_L K sX8_rest kX8_rest 32 [some (.ref a0), some (.int x1), some (.int x2), some (.int (x3 + (1 : Int32))), some (.int (x4 + (1 : Int32)))] [] h1 P
          else
            xm_Call K sX8_habitIn 8 [.ref a0, .int x4, .int x1] h1 (xm_pi fun c4 h3 =>
              P (some (.int c4)) h3))))
    else
      (if x1 < 0 then
        P (some (.int x3)) h
      else
        P (some (.int (-2 : Int32))) h))) :
    xm_L K sX8_rest kX8_rest 32 [some (.ref a0), some (.int x1), some (.int x2), some (.int x3), some (.int x4)] [] h P :=
  xm_run (fun _ _ h => h) oX8_rest 15 32 0 0 [some (.ref a0), some (.int x1), some (.int x2), some (.int x3), some (.int x4)] [] h H

def kX8_habitIn : List xm_I := [
  i_0 0 (.iload_n 1) 1 none,
  i_0 1 (.aload_n 0) 1 none,
  i_0 2 (.iload_n 2) 1 none,
  i_m 3 (.invokevirtual 200) 3 none 1 8 [618, 620, 10, 108, 621] 0 sX8_placeIn,
  i_0 6 (.ishr) 1 none,
  i_v 7 (.iconst 3) 1 none 3 [],
  i_0 8 (.iand) 1 none,
  i_0 9 (.ireturn) 1 none]
set_option maxRecDepth 100000 in
theorem oX8_habitIn : xm_ok sX8_habitIn sX8_habitIn.1.cls kX8_habitIn = true := by decide +kernel
set_option maxRecDepth 100000 in
set_option maxHeartbeats 4000000 in
theorem xX8_habitIn_0 {K : Nat} {h : xm_H} {P : Option Value → xm_H → Prop} {a0 : Nat} {x1 : Int32} {x2 : Int32} (H :
    xm_Call K sX8_placeIn 8 [.ref a0, .int x2] h (xm_pi fun c2 h1 =>
      P (some (.int ((x1 >>> (c2 &&& 31)) &&& (3 : Int32)))) h1)) :
    xm_L K sX8_habitIn kX8_habitIn 0 [some (.ref a0), some (.int x1), some (.int x2)] [] h P :=
  xm_run (fun _ _ h => h) oX8_habitIn 9 0 0 0 [some (.ref a0), some (.int x1), some (.int x2)] [] h H
set_option maxRecDepth 100000 in
theorem eX8_habitIn {K K' : Nat} (hK : K < K') {h : xm_H} {P : Option Value → xm_H → Prop} {a0 : Nat} {x1 : Int32} {x2 : Int32} (hr : ∃ fs, h[a0]? = some (.inr (8, fs))) (H :
    xm_Call K sX8_placeIn 8 [.ref a0, .int x2] h (xm_pi fun c2 h1 =>
      P (some (.int ((x1 >>> (c2 &&& 31)) &&& (3 : Int32)))) h1)) :
    xm_Call K' sX8_habitIn 8 [.ref a0, .int x1, .int x2] h P :=
  xm_call_of (C := kX8_habitIn) hK (by decide +kernel) rfl (Nat.le_of_ble_eq_true rfl) (Or.inr ⟨a0, hr.choose, rfl, hr.choose_spec⟩) (xX8_habitIn_0 H)

def kX8_placeIn : List xm_I := [
  i_v 0 (.iconst 2) 1 none 2 [],
  i_0 1 (.aload_n 0) 1 none,
  i_f 2 (.getfield 10) 3 none 8 0 [328] 1,
  i_f 5 (.getfield 89) 3 none 7 1 [140] 0,
  i_v 8 (.iconst 1) 1 none 1 [],
  i_0 9 (.isub) 1 none,
  i_0 10 (.iload_n 1) 1 none,
  i_0 11 (.isub) 1 none,
  i_0 12 (.imul) 1 none,
  i_0 13 (.ireturn) 1 none]
set_option maxRecDepth 100000 in
theorem oX8_placeIn : xm_ok sX8_placeIn sX8_placeIn.1.cls kX8_placeIn = true := by decide +kernel
set_option maxRecDepth 100000 in
set_option maxHeartbeats 4000000 in
theorem xX8_placeIn_0 {K : Nat} {h : xm_H} {P : Option Value → xm_H → Prop} {a0 : Nat} {x1 : Int32} (H :
    ∃ q1, xm_fld h a0 8 0 = some (.ref q1) ∧ /- now -/
    ∃ f2, xm_fld h q1 7 1 = some (.int f2) ∧ /- people -/
    P (some (.int ((2 : Int32) * ((f2 - (1 : Int32)) - x1)))) h) :
    xm_L K sX8_placeIn kX8_placeIn 0 [some (.ref a0), some (.int x1)] [] h P :=
  xm_run (fun _ _ h => h) oX8_placeIn 11 0 0 0 [some (.ref a0), some (.int x1)] [] h H
set_option maxRecDepth 100000 in
theorem eX8_placeIn {K K' : Nat} (hK : K < K') {h : xm_H} {P : Option Value → xm_H → Prop} {a0 : Nat} {x1 : Int32} (hr : ∃ fs, h[a0]? = some (.inr (8, fs))) (H :
    ∃ q1, xm_fld h a0 8 0 = some (.ref q1) ∧ /- now -/
    ∃ f2, xm_fld h q1 7 1 = some (.int f2) ∧ /- people -/
    P (some (.int ((2 : Int32) * ((f2 - (1 : Int32)) - x1)))) h) :
    xm_Call K' sX8_placeIn 8 [.ref a0, .int x1] h P :=
  xm_call_of (C := kX8_placeIn) hK (by decide +kernel) rfl (Nat.le_of_ble_eq_true rfl) (Or.inr ⟨a0, hr.choose, rfl, hr.choose_spec⟩) (xX8_placeIn_0 H)

