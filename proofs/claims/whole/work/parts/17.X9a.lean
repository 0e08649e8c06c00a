def kX9_init : List xm_I := [
  i_0 0 (.aload_n 0) 1 none,
  i_f 1 (.invokespecial 1) 3 none 0 0 [925, 127, 128] 2,
  i_0 4 (.aload_n 0) 1 none,
  i_v 5 (.bipush 8) 2 none 8 [],
  i_f 7 (.newarray .int) 2 none 0 8 [147] 8,
  i_f 9 (.putfield 7) 3 none 9 2 [927] 1,
  i_0 12 (.aload_n 0) 1 none,
  i_v 13 (.bipush 8) 2 none 8 [],
  i_f 15 (.newarray .int) 2 none 0 8 [147] 8,
  i_f 17 (.putfield 13) 3 none 9 3 [928] 1,
  i_0 20 (.aload_n 0) 1 none,
  i_v 21 (.bipush 8) 2 none 8 [],
  i_f 23 (.newarray .int) 2 none 0 8 [147] 8,
  i_f 25 (.putfield 16) 3 none 9 4 [929] 1,
  i_0 28 (.aload_n 0) 1 none,
  i_v 29 (.bipush 8) 2 none 8 [],
  i_f 31 (.newarray .int) 2 none 0 8 [147] 8,
  i_f 33 (.putfield 19) 3 none 9 5 [930] 1,
  i_0 36 (.aload_n 0) 1 none,
  i_v 37 (.bipush 8) 2 none 8 [],
  i_f 39 (.newarray .int) 2 none 0 8 [147] 8,
  i_f 41 (.putfield 22) 3 none 9 6 [931] 1,
  i_0 44 (.aload_n 0) 1 none,
  i_v 45 (.bipush 8) 2 none 8 [],
  i_f 47 (.newarray .int) 2 none 0 8 [147] 8,
  i_f 49 (.putfield 25) 3 none 9 7 [932] 1,
  i_0 52 (.aload_n 0) 1 none,
  i_v 53 (.bipush 8) 2 none 8 [],
  i_f 55 (.newarray .int) 2 none 0 8 [147] 8,
  i_f 57 (.putfield 28) 3 none 9 8 [933] 1,
  i_0 60 (.aload_n 0) 1 none,
  i_v 61 (.bipush 8) 2 none 8 [],
  i_f 63 (.newarray .int) 2 none 0 8 [147] 8,
  i_0 65 (.dup) 1 none,
  i_v 66 (.iconst 0) 1 none 0 [],
  i_v 67 (.bipush 20) 2 none 20 [],
  i_0 69 (.iastore) 1 none,
  i_0 70 (.dup) 1 none,
  i_v 71 (.iconst 1) 1 none 1 [],
  i_v 72 (.bipush 20) 2 none 20 [],
  i_0 74 (.iastore) 1 none,
  i_0 75 (.dup) 1 none,
  i_v 76 (.iconst 2) 1 none 2 [],
  i_v 77 (.bipush 20) 2 none 20 [],
  i_0 79 (.iastore) 1 none,
  i_0 80 (.dup) 1 none,
  i_v 81 (.iconst 3) 1 none 3 [],
  i_v 82 (.bipush 20) 2 none 20 [],
  i_0 84 (.iastore) 1 none,
  i_0 85 (.dup) 1 none,
  i_v 86 (.iconst 4) 1 none 4 [],
  i_v 87 (.bipush 20) 2 none 20 [],
  i_0 89 (.iastore) 1 none,
  i_0 90 (.dup) 1 none,
  i_v 91 (.iconst 5) 1 none 5 [],
  i_v 92 (.bipush 20) 2 none 20 [],
  i_0 94 (.iastore) 1 none,
  i_0 95 (.dup) 1 none,
  i_v 96 (.bipush 6) 2 none 6 [],
  i_v 98 (.bipush 20) 2 none 20 [],
  i_0 100 (.iastore) 1 none,
  i_0 101 (.dup) 1 none,
  i_v 102 (.bipush 7) 2 none 7 [],
  i_v 104 (.bipush 20) 2 none 20 [],
  i_0 106 (.iastore) 1 none,
  i_f 107 (.putfield 31) 3 none 9 9 [934] 1,
  i_0 110 (.aload_n 0) 1 none,
  i_v 111 (.iconst 3) 1 none 3 [],
  i_f 112 (.newarray .int) 2 none 0 3 [147] 3,
  i_0 114 (.dup) 1 none,
  i_v 115 (.iconst 0) 1 none 0 [],
  i_v 116 (.iconst 0) 1 none 0 [],
  i_0 117 (.iastore) 1 none,
  i_0 118 (.dup) 1 none,
  i_v 119 (.iconst 1) 1 none 1 [],
  i_v 120 (.bipush 10) 2 none 10 [],
  i_0 122 (.iastore) 1 none,
  i_0 123 (.dup) 1 none,
  i_v 124 (.iconst 2) 1 none 2 [],
  i_v 125 (.bipush 10) 2 none 10 [],
  i_0 127 (.iastore) 1 none,
  i_f 128 (.putfield 34) 3 none 9 10 [935] 1,
  i_0 131 (.aload_n 0) 1 none,
  i_v 132 (.bipush 40) 2 none 40 [],
  i_f 134 (.newarray .int) 2 none 0 40 [147] 40,
  i_f 136 (.putfield 37) 3 none 9 13 [938] 1,
  i_0 139 (.aload_n 0) 1 none,
  i_v 140 (.bipush 40) 2 none 40 [],
  i_f 142 (.newarray .int) 2 none 0 40 [147] 40,
  i_f 144 (.putfield 40) 3 none 9 14 [939] 1,
  i_0 147 (.aload_n 0) 1 none,
  i_v 148 (.bipush 40) 2 none 40 [],
  i_f 150 (.newarray .int) 2 none 0 40 [147] 40,
  i_f 152 (.putfield 43) 3 none 9 15 [940] 1,
  i_0 155 (.aload_n 0) 1 none,
  i_v 156 (.bipush 40) 2 none 40 [],
  i_f 158 (.newarray .int) 2 none 0 40 [147] 40,
  i_f 160 (.putfield 46) 3 none 9 16 [941] 1,
  i_0 163 (.aload_n 0) 1 none,
  i_v 164 (.bipush 120) 2 none 120 [],
  i_f 166 (.newarray .byte) 2 none 1 120 [1100] 120,
  i_f 168 (.putfield 49) 3 none 9 17 [942] 1,
  i_0 171 (.aload_n 0) 1 none,
  i_v 172 (.sipush 260) 3 none 260 [],
  i_f 175 (.newarray .byte) 2 none 1 260 [1100] 260,
  i_f 177 (.putfield 53) 3 none 9 23 [948] 1,
  i_0 180 (.aload_n 0) 1 none,
  i_v 181 (.sipush 260) 3 none 260 [],
  i_f 184 (.newarray .int) 2 none 0 260 [147] 260,
  i_f 186 (.putfield 56) 3 none 9 24 [949] 1,
  i_0 189 (.aload_n 0) 1 none,
  i_v 190 (.iconst 2) 1 none 2 [],
  i_f 191 (.newarray .int) 2 none 0 2 [147] 2,
  i_f 193 (.putfield 59) 3 none 9 25 [950] 1,
  i_0 196 (.aload_n 0) 1 none,
  i_v 197 (.bipush 122) 2 none 122 [],
  i_f 199 (.newarray .short) 2 none 2 122 [1101] 122,
  i_f 201 (.putfield 62) 3 none 9 26 [951] 1,
  i_0 204 (.aload_n 0) 1 none,
  i_v 205 (.bipush 122) 2 none 122 [],
  i_f 207 (.newarray .short) 2 none 2 122 [1101] 122,
  i_f 209 (.putfield 66) 3 none 9 27 [952] 1,
  i_0 212 (.aload_n 0) 1 none,
  i_v 213 (.bipush 6) 2 none 6 [],
  i_f 215 (.newarray .int) 2 none 0 6 [147] 6,
  i_f 217 (.putfield 69) 3 none 9 28 [953] 1,
  i_0 220 (.aload_n 0) 1 none,
  i_v 221 (.sipush 130) 3 none 130 [],
  i_f 224 (.newarray .int) 2 none 0 130 [147] 130,
  i_f 226 (.putfield 72) 3 none 9 29 [954] 1,
  i_0 229 (.aload_n 0) 1 none,
  i_v 230 (.bipush 8) 2 none 8 [],
  i_f 232 (.newarray .int) 2 none 0 8 [147] 8,
  i_f 234 (.putfield 75) 3 none 9 31 [956] 1,
  i_0 237 (.aload_n 0) 1 none,
  i_v 238 (.bipush 8) 2 none 8 [],
  i_f 240 (.newarray .int) 2 none 0 8 [147] 8,
  i_f 242 (.putfield 78) 3 none 9 32 [957] 1,
  i_0 245 (.aload_n 0) 1 none,
  i_v 246 (.bipush 8) 2 none 8 [],
  i_f 248 (.newarray .int) 2 none 0 8 [147] 8,
  i_f 250 (.putfield 81) 3 none 9 33 [958] 1,
  i_0 253 (.aload_n 0) 1 none,
  i_v 254 (.bipush 8) 2 none 8 [],
  i_f 256 (.newarray .int) 2 none 0 8 [147] 8,
  i_f 258 (.putfield 84) 3 none 9 34 [959] 1,
  i_0 261 (.aload_n 0) 1 none,
  i_v 262 (.bipush 8) 2 none 8 [],
  i_f 264 (.newarray .int) 2 none 0 8 [147] 8,
  i_f 266 (.putfield 87) 3 none 9 35 [960] 1,
  i_0 269 (.aload_n 0) 1 none,
  i_v 270 (.bipush 8) 2 none 8 [],
  i_f 272 (.newarray .int) 2 none 0 8 [147] 8,
  i_f 274 (.putfield 90) 3 none 9 40 [965] 1,
  i_0 277 (.aload_n 0) 1 none,
  i_v 278 (.bipush 6) 2 none 6 [],
  i_f 280 (.newarray .int) 2 none 0 6 [147] 6,
  i_f 282 (.putfield 93) 3 none 9 44 [969] 1,
  i_0 285 (.aload_n 0) 1 none,
  i_v 286 (.bipush 32) 2 none 32 [],
  i_f 288 (.newarray .int) 2 none 0 32 [147] 32,
  i_f 290 (.putfield 96) 3 none 9 48 [973] 1,
  i_0 293 (.aload_n 0) 1 none,
  i_v 294 (.bipush 6) 2 none 6 [],
  i_f 296 (.newarray .int) 2 none 0 6 [147] 6,
  i_f 298 (.putfield 99) 3 none 9 49 [974] 1,
  i_0 301 (.aload_n 0) 1 none,
  i_v 302 (.bipush 50) 2 none 50 [],
  i_f 304 (.newarray .int) 2 none 0 50 [147] 50,
  i_f 306 (.putfield 102) 3 none 9 51 [976] 1,
  i_0 309 (.aload_n 0) 1 none,
  i_v 310 (.bipush 24) 2 none 24 [],
  i_f 312 (.newarray .int) 2 none 0 24 [147] 24,
  i_f 314 (.putfield 105) 3 none 9 53 [978] 1,
  i_0 317 (.aload_n 0) 1 none,
  i_v 318 (.bipush 6) 2 none 6 [],
  i_f 320 (.newarray .int) 2 none 0 6 [147] 6,
  i_0 322 (.dup) 1 none,
  i_v 323 (.iconst 0) 1 none 0 [],
  i_v 324 (.iconst (-1)) 1 none (-1) [],
  i_0 325 (.iastore) 1 none,
  i_0 326 (.dup) 1 none,
  i_v 327 (.iconst 1) 1 none 1 [],
  i_v 328 (.iconst (-1)) 1 none (-1) [],
  i_0 329 (.iastore) 1 none,
  i_0 330 (.dup) 1 none,
  i_v 331 (.iconst 2) 1 none 2 [],
  i_v 332 (.iconst (-1)) 1 none (-1) [],
  i_0 333 (.iastore) 1 none,
  i_0 334 (.dup) 1 none,
  i_v 335 (.iconst 3) 1 none 3 [],
  i_v 336 (.iconst (-1)) 1 none (-1) [],
  i_0 337 (.iastore) 1 none,
  i_0 338 (.dup) 1 none,
  i_v 339 (.iconst 4) 1 none 4 [],
  i_v 340 (.iconst (-1)) 1 none (-1) [],
  i_0 341 (.iastore) 1 none,
  i_0 342 (.dup) 1 none,
  i_v 343 (.iconst 5) 1 none 5 [],
  i_v 344 (.iconst (-1)) 1 none (-1) [],
  i_0 345 (.iastore) 1 none,
  i_f 346 (.putfield 108) 3 none 9 54 [979] 1,
  i_0 349 (.aload_n 0) 1 none,
  i_v 350 (.bipush 6) 2 none 6 [],
  i_f 352 (.newarray .int) 2 none 0 6 [147] 6,
  i_f 354 (.putfield 111) 3 none 9 55 [980] 1,
  i_0 357 (.aload_n 0) 1 none,
  i_v 358 (.sipush 360) 3 none 360 [],
  i_f 361 (.newarray .long) 2 none 3 360 [327] 360,
  i_f 363 (.putfield 114) 3 none 9 56 [981] 1,
  i_0 366 (.aload_n 0) 1 none,
  i_v 367 (.bipush 60) 2 none 60 [],
  i_f 369 (.newarray .long) 2 none 3 60 [327] 60,
  i_f 371 (.putfield 118) 3 none 9 57 [982] 1,
  i_0 374 (.return_) 1 none]
set_option maxRecDepth 100000 in
theorem oX9_init : xm_ok sX9_init sX9_init.1.cls kX9_init = true := by decide +kernel
set_option maxRecDepth 100000 in
set_option maxHeartbeats 4000000 in
theorem xX9_init_0 {K : Nat} {h : xm_H} {P : Option Value → xm_H → Prop} {a0 : Nat} (H :
    (0 + 1 ≤ 36 ∧ 0 + 8 ≤ 1847) ∧ xm_va h [some (.ref a0)] [.ref a0] 1 ∧
    ∃ h1, xm_put (h ++ [xm_za 0 8]) a0 9 2 (.ref (List.length h)) = some h1 ∧ /- wishOf -/
    (1 + 1 ≤ 36 ∧ 8 + 8 ≤ 1847) ∧ xm_va h1 [some (.ref a0)] [.ref a0] 1 ∧
    ∃ h2, xm_put (h1 ++ [xm_za 0 8]) a0 9 3 (.ref (List.length h1)) = some h2 ∧ /- purseOf -/
    (2 + 1 ≤ 36 ∧ 16 + 8 ≤ 1847) ∧ xm_va h2 [some (.ref a0)] [.ref a0] 1 ∧
    ∃ h3, xm_put (h2 ++ [xm_za 0 8]) a0 9 4 (.ref (List.length h2)) = some h3 ∧ /- ageOf -/
    (3 + 1 ≤ 36 ∧ 24 + 8 ≤ 1847) ∧ xm_va h3 [some (.ref a0)] [.ref a0] 1 ∧
    ∃ h4, xm_put (h3 ++ [xm_za 0 8]) a0 9 5 (.ref (List.length h3)) = some h4 ∧ /- habitOf -/
    (4 + 1 ≤ 36 ∧ 32 + 8 ≤ 1847) ∧ xm_va h4 [some (.ref a0)] [.ref a0] 1 ∧
    ∃ h5, xm_put (h4 ++ [xm_za 0 8]) a0 9 6 (.ref (List.length h4)) = some h5 ∧ /- kindOf -/
    (5 + 1 ≤ 36 ∧ 40 + 8 ≤ 1847) ∧ xm_va h5 [some (.ref a0)] [.ref a0] 1 ∧
    ∃ h6, xm_put (h5 ++ [xm_za 0 8]) a0 9 7 (.ref (List.length h5)) = some h6 ∧ /- heardOf -/
    (6 + 1 ≤ 36 ∧ 48 + 8 ≤ 1847) ∧ xm_va h6 [some (.ref a0)] [.ref a0] 1 ∧
    ∃ h7, xm_put (h6 ++ [xm_za 0 8]) a0 9 8 (.ref (List.length h6)) = some h7 ∧ /- earnsOf -/
    (7 + 1 ≤ 36 ∧ 56 + 8 ≤ 1847) ∧ xm_va h7 [some (.ref a0)] [.ref a0] 1 ∧
    ∃ h8, xm_sto (h7 ++ [xm_za 0 8]) 0 (List.length h7) (0 : Int32) (20 : Int32) = some h8 ∧
    ∃ h9, xm_sto h8 0 (List.length h7) (1 : Int32) (20 : Int32) = some h9 ∧
    ∃ h10, xm_sto h9 0 (List.length h7) (2 : Int32) (20 : Int32) = some h10 ∧
    ∃ h11, xm_sto h10 0 (List.length h7) (3 : Int32) (20 : Int32) = some h11 ∧
    ∃ h12, xm_sto h11 0 (List.length h7) (4 : Int32) (20 : Int32) = some h12 ∧
    ∃ h13, xm_sto h12 0 (List.length h7) (5 : Int32) (20 : Int32) = some h13 ∧
    ∃ h14, xm_sto h13 0 (List.length h7) (6 : Int32) (20 : Int32) = some h14 ∧
    ∃ h15, xm_sto h14 0 (List.length h7) (7 : Int32) (20 : Int32) = some h15 ∧
    ∃ h16, xm_put h15 a0 9 9 (.ref (List.length h7)) = some h16 ∧ /- snows -/
    (8 + 1 ≤ 36 ∧ 64 + 3 ≤ 1847) ∧ xm_va h16 [some (.ref a0)] [.ref a0] 1 ∧
    ∃ h17, xm_sto (h16 ++ [xm_za 0 3]) 0 (List.length h16) (0 : Int32) (0 : Int32) = some h17 ∧
    ∃ h18, xm_sto h17 0 (List.length h16) (1 : Int32) (10 : Int32) = some h18 ∧
    ∃ h19, xm_sto h18 0 (List.length h16) (2 : Int32) (10 : Int32) = some h19 ∧
    ∃ h20, xm_put h19 a0 9 10 (.ref (List.length h16)) = some h20 ∧ /- pass -/
    (9 + 1 ≤ 36 ∧ 67 + 40 ≤ 1847) ∧ xm_va h20 [some (.ref a0)] [.ref a0] 1 ∧
    ∃ h21, xm_put (h20 ++ [xm_za 0 40]) a0 9 13 (.ref (List.length h20)) = some h21 ∧ /- changeOf -/
    (10 + 1 ≤ 36 ∧ 107 + 40 ≤ 1847) ∧ xm_va h21 [some (.ref a0)] [.ref a0] 1 ∧
    ∃ h22, xm_put (h21 ++ [xm_za 0 40]) a0 9 14 (.ref (List.length h21)) = some h22 ∧ /- changeAt -/
    (11 + 1 ≤ 36 ∧ 147 + 40 ≤ 1847) ∧ xm_va h22 [some (.ref a0)] [.ref a0] 1 ∧
    ∃ h23, xm_put (h22 ++ [xm_za 0 40]) a0 9 15 (.ref (List.length h22)) = some h23 ∧ /- before -/
    (12 + 1 ≤ 36 ∧ 187 + 40 ≤ 1847) ∧ xm_va h23 [some (.ref a0)] [.ref a0] 1 ∧
    ∃ h24, xm_put (h23 ++ [xm_za 0 40]) a0 9 16 (.ref (List.length h23)) = some h24 ∧ /- behind -/
    (13 + 1 ≤ 36 ∧ 227 + 120 ≤ 1847) ∧ xm_va h24 [some (.ref a0)] [.ref a0] 1 ∧
    ∃ h25, xm_put (h24 ++ [xm_za 1 120]) a0 9 17 (.ref (List.length h24)) = some h25 ∧ /- tape -/
    (14 + 1 ≤ 36 ∧ 347 + 260 ≤ 1847) ∧ xm_va h25 [some (.ref a0)] [.ref a0] 1 ∧
    ∃ h26, xm_put (h25 ++ [xm_za 1 260]) a0 9 23 (.ref (List.length h25)) = some h26 ∧ /- act -/
    (15 + 1 ≤ 36 ∧ 607 + 260 ≤ 1847) ∧ xm_va h26 [some (.ref a0)] [.ref a0] 1 ∧
    ∃ h27, xm_put (h26 ++ [xm_za 0 260]) a0 9 24 (.ref (List.length h26)) = some h27 ∧ /- with -/
    (16 + 1 ≤ 36 ∧ 867 + 2 ≤ 1847) ∧ xm_va h27 [some (.ref a0)] [.ref a0] 1 ∧
    ∃ h28, xm_put (h27 ++ [xm_za 0 2]) a0 9 25 (.ref (List.length h27)) = some h28 ∧ /- lineMany -/
    (17 + 1 ≤ 36 ∧ 869 + 122 ≤ 1847) ∧ xm_va h28 [some (.ref a0)] [.ref a0] 1 ∧
    ∃ h29, xm_put (h28 ++ [xm_za 2 122]) a0 9 26 (.ref (List.length h28)) = some h29 ∧ /- testEnd -/
    (18 + 1 ≤ 36 ∧ 991 + 122 ≤ 1847) ∧ xm_va h29 [some (.ref a0)] [.ref a0] 1 ∧
    ∃ h30, xm_put (h29 ++ [xm_za 2 122]) a0 9 27 (.ref (List.length h29)) = some h30 ∧ /- lineEnd -/
    (19 + 1 ≤ 36 ∧ 1113 + 6 ≤ 1847) ∧ xm_va h30 [some (.ref a0)] [.ref a0] 1 ∧
    ∃ h31, xm_put (h30 ++ [xm_za 0 6]) a0 9 28 (.ref (List.length h30)) = some h31 ∧ /- facts -/
    (20 + 1 ≤ 36 ∧ 1119 + 130 ≤ 1847) ∧ xm_va h31 [some (.ref a0)] [.ref a0] 1 ∧
    ∃ h32, xm_put (h31 ++ [xm_za 0 130]) a0 9 29 (.ref (List.length h31)) = some h32 ∧ /- pile -/
    (21 + 1 ≤ 36 ∧ 1249 + 8 ≤ 1847) ∧ xm_va h32 [some (.ref a0)] [.ref a0] 1 ∧
    ∃ h33, xm_put (h32 ++ [xm_za 0 8]) a0 9 31 (.ref (List.length h32)) = some h33 ∧ /- habit1 -/
    (22 + 1 ≤ 36 ∧ 1257 + 8 ≤ 1847) ∧ xm_va h33 [some (.ref a0)] [.ref a0] 1 ∧
    ∃ h34, xm_put (h33 ++ [xm_za 0 8]) a0 9 32 (.ref (List.length h33)) = some h34 ∧ /- heard1 -/
    (23 + 1 ≤ 36 ∧ 1265 + 8 ≤ 1847) ∧ xm_va h34 [some (.ref a0)] [.ref a0] 1 ∧
    ∃ h35, xm_put (h34 ++ [xm_za 0 8]) a0 9 33 (.ref (List.length h34)) = some h35 ∧ /- purse1 -/
    (24 + 1 ≤ 36 ∧ 1273 + 8 ≤ 1847) ∧ xm_va h35 [some (.ref a0)] [.ref a0] 1 ∧
    ∃ h36, xm_put (h35 ++ [xm_za 0 8]) a0 9 34 (.ref (List.length h35)) = some h36 ∧ /- age1 -/
    (25 + 1 ≤ 36 ∧ 1281 + 8 ≤ 1847) ∧ xm_va h36 [some (.ref a0)] [.ref a0] 1 ∧
    ∃ h37, xm_put (h36 ++ [xm_za 0 8]) a0 9 35 (.ref (List.length h36)) = some h37 ∧ /- assessed -/
    (26 + 1 ≤ 36 ∧ 1289 + 8 ≤ 1847) ∧ xm_va h37 [some (.ref a0)] [.ref a0] 1 ∧
    ∃ h38, xm_put (h37 ++ [xm_za 0 8]) a0 9 40 (.ref (List.length h37)) = some h38 ∧ /- firstRest -/
    (27 + 1 ≤ 36 ∧ 1297 + 6 ≤ 1847) ∧ xm_va h38 [some (.ref a0)] [.ref a0] 1 ∧
    ∃ h39, xm_put (h38 ++ [xm_za 0 6]) a0 9 44 (.ref (List.length h38)) = some h39 ∧ /- ledOf -/
    (28 + 1 ≤ 36 ∧ 1303 + 32 ≤ 1847) ∧ xm_va h39 [some (.ref a0)] [.ref a0] 1 ∧
    ∃ h40, xm_put (h39 ++ [xm_za 0 32]) a0 9 48 (.ref (List.length h39)) = some h40 ∧ /- keptOnes -/
    (29 + 1 ≤ 36 ∧ 1335 + 6 ≤ 1847) ∧ xm_va h40 [some (.ref a0)] [.ref a0] 1 ∧
    ∃ h41, xm_put (h40 ++ [xm_za 0 6]) a0 9 49 (.ref (List.length h40)) = some h41 ∧ /- keptLed -/
    (30 + 1 ≤ 36 ∧ 1341 + 50 ≤ 1847) ∧ xm_va h41 [some (.ref a0)] [.ref a0] 1 ∧
    ∃ h42, xm_put (h41 ++ [xm_za 0 50]) a0 9 51 (.ref (List.length h41)) = some h42 ∧ /- kind -/
    (31 + 1 ≤ 36 ∧ 1391 + 24 ≤ 1847) ∧ xm_va h42 [some (.ref a0)] [.ref a0] 1 ∧
    ∃ h43, xm_put (h42 ++ [xm_za 0 24]) a0 9 53 (.ref (List.length h42)) = some h43 ∧ /- traced -/
    (32 + 1 ≤ 36 ∧ 1415 + 6 ≤ 1847) ∧ xm_va h43 [some (.ref a0)] [.ref a0] 1 ∧
    ∃ h44, xm_sto (h43 ++ [xm_za 0 6]) 0 (List.length h43) (0 : Int32) (-1 : Int32) = some h44 ∧
    ∃ h45, xm_sto h44 0 (List.length h43) (1 : Int32) (-1 : Int32) = some h45 ∧
    ∃ h46, xm_sto h45 0 (List.length h43) (2 : Int32) (-1 : Int32) = some h46 ∧
    ∃ h47, xm_sto h46 0 (List.length h43) (3 : Int32) (-1 : Int32) = some h47 ∧
    ∃ h48, xm_sto h47 0 (List.length h43) (4 : Int32) (-1 : Int32) = some h48 ∧
    ∃ h49, xm_sto h48 0 (List.length h43) (5 : Int32) (-1 : Int32) = some h49 ∧
    ∃ h50, xm_put h49 a0 9 54 (.ref (List.length h43)) = some h50 ∧ /- holds -/
    (33 + 1 ≤ 36 ∧ 1421 + 6 ≤ 1847) ∧ xm_va h50 [some (.ref a0)] [.ref a0] 1 ∧
    ∃ h51, xm_put (h50 ++ [xm_za 0 6]) a0 9 55 (.ref (List.length h50)) = some h51 ∧ /- size -/
    (34 + 1 ≤ 36 ∧ 1427 + 360 ≤ 1847) ∧ xm_va h51 [some (.ref a0)] [.ref a0] 1 ∧
    ∃ h52, xm_put (h51 ++ [xm_za 3 360]) a0 9 56 (.ref (List.length h51)) = some h52 ∧ /- elements -/
    (35 + 1 ≤ 36 ∧ 1787 + 60 ≤ 1847) ∧ xm_va h52 [some (.ref a0)] [.ref a0] 1 ∧
    ∃ h53, xm_put (h52 ++ [xm_za 3 60]) a0 9 57 (.ref (List.length h52)) = some h53 ∧ /- shifted -/
    P none h53) :
    xm_At xm_st K sX9_init sX9_init.1.cls kX9_init 0 0 0 [some (.ref a0)] [] h P :=
  xm_run (fun _ _ h => h) oX9_init 216 0 0 0 [some (.ref a0)] [] h H
set_option maxRecDepth 100000 in
theorem eX9_init {K K' : Nat} (hK : K < K') {h : xm_H} {P : Option Value → xm_H → Prop} {a0 : Nat} (hr : ∃ fs, h[a0]? = some (.inr (9, fs))) (H :
    (0 + 1 ≤ 36 ∧ 0 + 8 ≤ 1847) ∧ xm_va h [some (.ref a0)] [.ref a0] 1 ∧
    ∃ h1, xm_put (h ++ [xm_za 0 8]) a0 9 2 (.ref (List.length h)) = some h1 ∧ /- wishOf -/
    (1 + 1 ≤ 36 ∧ 8 + 8 ≤ 1847) ∧ xm_va h1 [some (.ref a0)] [.ref a0] 1 ∧
    ∃ h2, xm_put (h1 ++ [xm_za 0 8]) a0 9 3 (.ref (List.length h1)) = some h2 ∧ /- purseOf -/
    (2 + 1 ≤ 36 ∧ 16 + 8 ≤ 1847) ∧ xm_va h2 [some (.ref a0)] [.ref a0] 1 ∧
    ∃ h3, xm_put (h2 ++ [xm_za 0 8]) a0 9 4 (.ref (List.length h2)) = some h3 ∧ /- ageOf -/
    (3 + 1 ≤ 36 ∧ 24 + 8 ≤ 1847) ∧ xm_va h3 [some (.ref a0)] [.ref a0] 1 ∧
    ∃ h4, xm_put (h3 ++ [xm_za 0 8]) a0 9 5 (.ref (List.length h3)) = some h4 ∧ /- habitOf -/
    (4 + 1 ≤ 36 ∧ 32 + 8 ≤ 1847) ∧ xm_va h4 [some (.ref a0)] [.ref a0] 1 ∧
    ∃ h5, xm_put (h4 ++ [xm_za 0 8]) a0 9 6 (.ref (List.length h4)) = some h5 ∧ /- kindOf -/
    (5 + 1 ≤ 36 ∧ 40 + 8 ≤ 1847) ∧ xm_va h5 [some (.ref a0)] [.ref a0] 1 ∧
    ∃ h6, xm_put (h5 ++ [xm_za 0 8]) a0 9 7 (.ref (List.length h5)) = some h6 ∧ /- heardOf -/
    (6 + 1 ≤ 36 ∧ 48 + 8 ≤ 1847) ∧ xm_va h6 [some (.ref a0)] [.ref a0] 1 ∧
    ∃ h7, xm_put (h6 ++ [xm_za 0 8]) a0 9 8 (.ref (List.length h6)) = some h7 ∧ /- earnsOf -/
    (7 + 1 ≤ 36 ∧ 56 + 8 ≤ 1847) ∧ xm_va h7 [some (.ref a0)] [.ref a0] 1 ∧
    ∃ h8, xm_sto (h7 ++ [xm_za 0 8]) 0 (List.length h7) (0 : Int32) (20 : Int32) = some h8 ∧
    ∃ h9, xm_sto h8 0 (List.length h7) (1 : Int32) (20 : Int32) = some h9 ∧
    ∃ h10, xm_sto h9 0 (List.length h7) (2 : Int32) (20 : Int32) = some h10 ∧
    ∃ h11, xm_sto h10 0 (List.length h7) (3 : Int32) (20 : Int32) = some h11 ∧
    ∃ h12, xm_sto h11 0 (List.length h7) (4 : Int32) (20 : Int32) = some h12 ∧
    ∃ h13, xm_sto h12 0 (List.length h7) (5 : Int32) (20 : Int32) = some h13 ∧
    ∃ h14, xm_sto h13 0 (List.length h7) (6 : Int32) (20 : Int32) = some h14 ∧
    ∃ h15, xm_sto h14 0 (List.length h7) (7 : Int32) (20 : Int32) = some h15 ∧
    ∃ h16, xm_put h15 a0 9 9 (.ref (List.length h7)) = some h16 ∧ /- snows -/
    (8 + 1 ≤ 36 ∧ 64 + 3 ≤ 1847) ∧ xm_va h16 [some (.ref a0)] [.ref a0] 1 ∧
    ∃ h17, xm_sto (h16 ++ [xm_za 0 3]) 0 (List.length h16) (0 : Int32) (0 : Int32) = some h17 ∧
    ∃ h18, xm_sto h17 0 (List.length h16) (1 : Int32) (10 : Int32) = some h18 ∧
    ∃ h19, xm_sto h18 0 (List.length h16) (2 : Int32) (10 : Int32) = some h19 ∧
    ∃ h20, xm_put h19 a0 9 10 (.ref (List.length h16)) = some h20 ∧ /- pass -/
    (9 + 1 ≤ 36 ∧ 67 + 40 ≤ 1847) ∧ xm_va h20 [some (.ref a0)] [.ref a0] 1 ∧
    ∃ h21, xm_put (h20 ++ [xm_za 0 40]) a0 9 13 (.ref (List.length h20)) = some h21 ∧ /- changeOf -/
    (10 + 1 ≤ 36 ∧ 107 + 40 ≤ 1847) ∧ xm_va h21 [some (.ref a0)] [.ref a0] 1 ∧
    ∃ h22, xm_put (h21 ++ [xm_za 0 40]) a0 9 14 (.ref (List.length h21)) = some h22 ∧ /- changeAt -/
    (11 + 1 ≤ 36 ∧ 147 + 40 ≤ 1847) ∧ xm_va h22 [some (.ref a0)] [.ref a0] 1 ∧
    ∃ h23, xm_put (h22 ++ [xm_za 0 40]) a0 9 15 (.ref (List.length h22)) = some h23 ∧ /- before -/
    (12 + 1 ≤ 36 ∧ 187 + 40 ≤ 1847) ∧ xm_va h23 [some (.ref a0)] [.ref a0] 1 ∧
    ∃ h24, xm_put (h23 ++ [xm_za 0 40]) a0 9 16 (.ref (List.length h23)) = some h24 ∧ /- behind -/
    (13 + 1 ≤ 36 ∧ 227 + 120 ≤ 1847) ∧ xm_va h24 [some (.ref a0)] [.ref a0] 1 ∧
    ∃ h25, xm_put (h24 ++ [xm_za 1 120]) a0 9 17 (.ref (List.length h24)) = some h25 ∧ /- tape -/
    (14 + 1 ≤ 36 ∧ 347 + 260 ≤ 1847) ∧ xm_va h25 [some (.ref a0)] [.ref a0] 1 ∧
    ∃ h26, xm_put (h25 ++ [xm_za 1 260]) a0 9 23 (.ref (List.length h25)) = some h26 ∧ /- act -/
    (15 + 1 ≤ 36 ∧ 607 + 260 ≤ 1847) ∧ xm_va h26 [some (.ref a0)] [.ref a0] 1 ∧
    ∃ h27, xm_put (h26 ++ [xm_za 0 260]) a0 9 24 (.ref (List.length h26)) = some h27 ∧ /- with -/
    (16 + 1 ≤ 36 ∧ 867 + 2 ≤ 1847) ∧ xm_va h27 [some (.ref a0)] [.ref a0] 1 ∧
    ∃ h28, xm_put (h27 ++ [xm_za 0 2]) a0 9 25 (.ref (List.length h27)) = some h28 ∧ /- lineMany -/
    (17 + 1 ≤ 36 ∧ 869 + 122 ≤ 1847) ∧ xm_va h28 [some (.ref a0)] [.ref a0] 1 ∧
    ∃ h29, xm_put (h28 ++ [xm_za 2 122]) a0 9 26 (.ref (List.length h28)) = some h29 ∧ /- testEnd -/
    (18 + 1 ≤ 36 ∧ 991 + 122 ≤ 1847) ∧ xm_va h29 [some (.ref a0)] [.ref a0] 1 ∧
    ∃ h30, xm_put (h29 ++ [xm_za 2 122]) a0 9 27 (.ref (List.length h29)) = some h30 ∧ /- lineEnd -/
    (19 + 1 ≤ 36 ∧ 1113 + 6 ≤ 1847) ∧ xm_va h30 [some (.ref a0)] [.ref a0] 1 ∧
    ∃ h31, xm_put (h30 ++ [xm_za 0 6]) a0 9 28 (.ref (List.length h30)) = some h31 ∧ /- facts -/
    (20 + 1 ≤ 36 ∧ 1119 + 130 ≤ 1847) ∧ xm_va h31 [some (.ref a0)] [.ref a0] 1 ∧
    ∃ h32, xm_put (h31 ++ [xm_za 0 130]) a0 9 29 (.ref (List.length h31)) = some h32 ∧ /- pile -/
    (21 + 1 ≤ 36 ∧ 1249 + 8 ≤ 1847) ∧ xm_va h32 [some (.ref a0)] [.ref a0] 1 ∧
    ∃ h33, xm_put (h32 ++ [xm_za 0 8]) a0 9 31 (.ref (List.length h32)) = some h33 ∧ /- habit1 -/
    (22 + 1 ≤ 36 ∧ 1257 + 8 ≤ 1847) ∧ xm_va h33 [some (.ref a0)] [.ref a0] 1 ∧
    ∃ h34, xm_put (h33 ++ [xm_za 0 8]) a0 9 32 (.ref (List.length h33)) = some h34 ∧ /- heard1 -/
    (23 + 1 ≤ 36 ∧ 1265 + 8 ≤ 1847) ∧ xm_va h34 [some (.ref a0)] [.ref a0] 1 ∧
    ∃ h35, xm_put (h34 ++ [xm_za 0 8]) a0 9 33 (.ref (List.length h34)) = some h35 ∧ /- purse1 -/
    (24 + 1 ≤ 36 ∧ 1273 + 8 ≤ 1847) ∧ xm_va h35 [some (.ref a0)] [.ref a0] 1 ∧
    ∃ h36, xm_put (h35 ++ [xm_za 0 8]) a0 9 34 (.ref (List.length h35)) = some h36 ∧ /- age1 -/
    (25 + 1 ≤ 36 ∧ 1281 + 8 ≤ 1847) ∧ xm_va h36 [some (.ref a0)] [.ref a0] 1 ∧
    ∃ h37, xm_put (h36 ++ [xm_za 0 8]) a0 9 35 (.ref (List.length h36)) = some h37 ∧ /- assessed -/
    (26 + 1 ≤ 36 ∧ 1289 + 8 ≤ 1847) ∧ xm_va h37 [some (.ref a0)] [.ref a0] 1 ∧
    ∃ h38, xm_put (h37 ++ [xm_za 0 8]) a0 9 40 (.ref (List.length h37)) = some h38 ∧ /- firstRest -/
    (27 + 1 ≤ 36 ∧ 1297 + 6 ≤ 1847) ∧ xm_va h38 [some (.ref a0)] [.ref a0] 1 ∧
    ∃ h39, xm_put (h38 ++ [xm_za 0 6]) a0 9 44 (.ref (List.length h38)) = some h39 ∧ /- ledOf -/
    (28 + 1 ≤ 36 ∧ 1303 + 32 ≤ 1847) ∧ xm_va h39 [some (.ref a0)] [.ref a0] 1 ∧
    ∃ h40, xm_put (h39 ++ [xm_za 0 32]) a0 9 48 (.ref (List.length h39)) = some h40 ∧ /- keptOnes -/
    (29 + 1 ≤ 36 ∧ 1335 + 6 ≤ 1847) ∧ xm_va h40 [some (.ref a0)] [.ref a0] 1 ∧
    ∃ h41, xm_put (h40 ++ [xm_za 0 6]) a0 9 49 (.ref (List.length h40)) = some h41 ∧ /- keptLed -/
    (30 + 1 ≤ 36 ∧ 1341 + 50 ≤ 1847) ∧ xm_va h41 [some (.ref a0)] [.ref a0] 1 ∧
    ∃ h42, xm_put (h41 ++ [xm_za 0 50]) a0 9 51 (.ref (List.length h41)) = some h42 ∧ /- kind -/
    (31 + 1 ≤ 36 ∧ 1391 + 24 ≤ 1847) ∧ xm_va h42 [some (.ref a0)] [.ref a0] 1 ∧
    ∃ h43, xm_put (h42 ++ [xm_za 0 24]) a0 9 53 (.ref (List.length h42)) = some h43 ∧ /- traced -/
    (32 + 1 ≤ 36 ∧ 1415 + 6 ≤ 1847) ∧ xm_va h43 [some (.ref a0)] [.ref a0] 1 ∧
    ∃ h44, xm_sto (h43 ++ [xm_za 0 6]) 0 (List.length h43) (0 : Int32) (-1 : Int32) = some h44 ∧
    ∃ h45, xm_sto h44 0 (List.length h43) (1 : Int32) (-1 : Int32) = some h45 ∧
    ∃ h46, xm_sto h45 0 (List.length h43) (2 : Int32) (-1 : Int32) = some h46 ∧
    ∃ h47, xm_sto h46 0 (List.length h43) (3 : Int32) (-1 : Int32) = some h47 ∧
    ∃ h48, xm_sto h47 0 (List.length h43) (4 : Int32) (-1 : Int32) = some h48 ∧
    ∃ h49, xm_sto h48 0 (List.length h43) (5 : Int32) (-1 : Int32) = some h49 ∧
    ∃ h50, xm_put h49 a0 9 54 (.ref (List.length h43)) = some h50 ∧ /- holds -/
    (33 + 1 ≤ 36 ∧ 1421 + 6 ≤ 1847) ∧ xm_va h50 [some (.ref a0)] [.ref a0] 1 ∧
    ∃ h51, xm_put (h50 ++ [xm_za 0 6]) a0 9 55 (.ref (List.length h50)) = some h51 ∧ /- size -/
    (34 + 1 ≤ 36 ∧ 1427 + 360 ≤ 1847) ∧ xm_va h51 [some (.ref a0)] [.ref a0] 1 ∧
    ∃ h52, xm_put (h51 ++ [xm_za 3 360]) a0 9 56 (.ref (List.length h51)) = some h52 ∧ /- elements -/
    (35 + 1 ≤ 36 ∧ 1787 + 60 ≤ 1847) ∧ xm_va h52 [some (.ref a0)] [.ref a0] 1 ∧
    ∃ h53, xm_put (h52 ++ [xm_za 3 60]) a0 9 57 (.ref (List.length h52)) = some h53 ∧ /- shifted -/
    P none h53) :
    xm_Call K' sX9_init 9 [.ref a0] h P :=
  xm_call_of (C := kX9_init) hK (by decide +kernel) rfl (Nat.le_of_ble_eq_true rfl) (Or.inr ⟨a0, hr.choose, rfl, hr.choose_spec⟩) (xX9_init_0 H)

def kX9_in : List xm_I := [
  i_0 0 (.iload_n 0) 1 none,
  i_0 1 (.iload_n 1) 1 none,
  i_j 2 (.if_icmp .lt 12) 3 none 8,
  i_0 5 (.iload_n 0) 1 none,
  i_0 6 (.iload_n 2) 1 none,
  i_j 7 (.if_icmp .gt 7) 3 none 8,
  i_v 10 (.iconst 1) 1 none 1 [],
  i_j 11 (.goto 4) 3 none 9,
  i_v 14 (.iconst 0) 1 none 0 [],
  i_0 15 (.ireturn) 1 none]
set_option maxRecDepth 100000 in
theorem oX9_in : xm_ok sX9_in sX9_in.1.cls kX9_in = true := by decide +kernel
set_option maxRecDepth 100000 in
set_option maxHeartbeats 4000000 in
theorem xX9_in_0 {K : Nat} {h : xm_H} {P : Option Value → xm_H → Prop} {x0 : Int32} {x1 : Int32} {x2 : Int32} (H :
    (if x0 < x1 then
      P (some (.int (0 : Int32))) h
    else
      (if x2 < x0 then
        P (some (.int (0 : Int32))) h
      else
        P (some (.int (1 : Int32))) h))) :
    xm_L K sX9_in kX9_in 0 [some (.int x0), some (.int x1), some (.int x2)] [] h P :=
  xm_run (fun _ _ h => h) oX9_in 10 0 0 0 [some (.int x0), some (.int x1), some (.int x2)] [] h H
set_option maxRecDepth 100000 in
theorem eX9_in {K K' : Nat} (hK : K < K') {h : xm_H} {P : Option Value → xm_H → Prop} {x0 : Int32} {x1 : Int32} {x2 : Int32} (H :
    (if x0 < x1 then
      P (some (.int (0 : Int32))) h
    else
      (if x2 < x0 then
        P (some (.int (0 : Int32))) h
      else
        P (some (.int (1 : Int32))) h))) :
    xm_Call K' sX9_in 99 [.int x0, .int x1, .int x2] h P :=
  xm_call_of (C := kX9_in) hK (by decide +kernel) rfl (Nat.le_of_ble_eq_true rfl) (Or.inl rfl) (xX9_in_0 H)

def kX9_has : List xm_I := [
  i_0 0 (.iload_n 0) 1 none,
  i_0 1 (.iload_n 1) 1 none,
  i_0 2 (.ishr) 1 none,
  i_v 3 (.iconst 1) 1 none 1 [],
  i_0 4 (.iand) 1 none,
  i_v 5 (.iconst 1) 1 none 1 [],
  i_j 6 (.if_icmp .ne 7) 3 none 9,
  i_v 9 (.iconst 1) 1 none 1 [],
  i_j 10 (.goto 4) 3 none 10,
  i_v 13 (.iconst 0) 1 none 0 [],
  i_0 14 (.ireturn) 1 none]
set_option maxRecDepth 100000 in
theorem oX9_has : xm_ok sX9_has sX9_has.1.cls kX9_has = true := by decide +kernel
set_option maxRecDepth 100000 in
set_option maxHeartbeats 4000000 in
theorem xX9_has_0 {K : Nat} {h : xm_H} {P : Option Value → xm_H → Prop} {x0 : Int32} {x1 : Int32} (H :
    (if ((x0 >>> (x1 &&& 31)) &&& (1 : Int32)) = (1 : Int32) then
      P (some (.int (1 : Int32))) h
    else
      P (some (.int (0 : Int32))) h)) :
    xm_L K sX9_has kX9_has 0 [some (.int x0), some (.int x1)] [] h P :=
  xm_run (fun _ _ h => h) oX9_has 11 0 0 0 [some (.int x0), some (.int x1)] [] h H
set_option maxRecDepth 100000 in
theorem eX9_has {K K' : Nat} (hK : K < K') {h : xm_H} {P : Option Value → xm_H → Prop} {x0 : Int32} {x1 : Int32} (H :
    (if ((x0 >>> (x1 &&& 31)) &&& (1 : Int32)) = (1 : Int32) then
      P (some (.int (1 : Int32))) h
    else
      P (some (.int (0 : Int32))) h)) :
    xm_Call K' sX9_has 99 [.int x0, .int x1] h P :=
  xm_call_of (C := kX9_has) hK (by decide +kernel) rfl (Nat.le_of_ble_eq_true rfl) (Or.inl rfl) (xX9_has_0 H)

def kX9_bitsOf : List xm_I := [
  i_v 0 (.iconst 0) 1 none 0 [],
  i_0 1 (.istore_n 1) 1 none,
  i_0 2 (.iload_n 0) 1 none,
  i_0 3 (.istore_n 2) 1 none,
  i_0 4 (.iload_n 2) 1 (some [false, true, true]),
  i_j 5 (.ifCond .eq 15) 3 none 14,
  i_v 8 (.iinc 1 1) 3 none 1 [],
  i_0 11 (.iload_n 2) 1 none,
  i_0 12 (.iload_n 2) 1 none,
  i_v 13 (.iconst 1) 1 none 1 [],
  i_0 14 (.isub) 1 none,
  i_0 15 (.iand) 1 none,
  i_0 16 (.istore_n 2) 1 none,
  i_j 17 (.goto (-13)) 3 none 4,
  i_0 20 (.iload_n 1) 1 none,
  i_0 21 (.ireturn) 1 none]
set_option maxRecDepth 100000 in
theorem oX9_bitsOf : xm_ok sX9_bitsOf sX9_bitsOf.1.cls kX9_bitsOf = true := by decide +kernel
set_option maxRecDepth 100000 in
set_option maxHeartbeats 4000000 in
theorem xX9_bitsOf_0 {K : Nat} {h : xm_H} {P : Option Value → xm_H → Prop} {x0 : Int32} (H :
    xm_L K sX9_bitsOf kX9_bitsOf 4 [none, some (.int (0 : Int32)), some (.int x0)] [] h P) :
    xm_L K sX9_bitsOf kX9_bitsOf 0 [some (.int x0), none, none] [] h P :=
  xm_run (fun _ _ h => h) oX9_bitsOf 5 0 0 0 [some (.int x0), none, none] [] h H
set_option maxRecDepth 100000 in
theorem eX9_bitsOf {K K' : Nat} (hK : K < K') {h : xm_H} {P : Option Value → xm_H → Prop} {x0 : Int32} (H :
    xm_L K sX9_bitsOf kX9_bitsOf 4 [none, some (.int (0 : Int32)), some (.int x0)] [] h P) :
    xm_Call K' sX9_bitsOf 99 [.int x0] h P :=
  xm_call_of (C := kX9_bitsOf) hK (by decide +kernel) rfl (Nat.le_of_ble_eq_true rfl) (Or.inl rfl) (xX9_bitsOf_0 H)

set_option maxRecDepth 100000 in
set_option maxHeartbeats 4000000 in
theorem xX9_bitsOf_4 {K : Nat} {h : xm_H} {P : Option Value → xm_H → Prop} {x1 : Int32} {x2 : Int32} (H :
    (if x2 = 0 then
      P (some (.int x1)) h
    else
      xm_L K sX9_bitsOf kX9_bitsOf 4 [none, some (.int (x1 + (1 : Int32))), some (.int (x2 &&& (x2 - (1 : Int32))))] [] h P)) :
    xm_L K sX9_bitsOf kX9_bitsOf 4 [none, some (.int x1), some (.int x2)] [] h P :=
  xm_run (fun _ _ h => h) oX9_bitsOf 11 4 0 0 [none, some (.int x1), some (.int x2)] [] h H

def kX9_isOne : List xm_I := [
  i_0 0 (.iload_n 1) 1 none,
  i_v 1 (.iconst 0) 1 none 0 [],
  i_0 2 (.aload_n 0) 1 none,
  i_f 3 (.getfield 125) 3 none 9 1 [926] 0,
  i_v 6 (.iconst 1) 1 none 1 [],
  i_0 7 (.isub) 1 none,
  i_m 8 (.invokestatic 128) 3 none 3 99 [1106, 1107, 117, 1108] 0 sX9_in,
  i_0 11 (.ireturn) 1 none]
set_option maxRecDepth 100000 in
theorem oX9_isOne : xm_ok sX9_isOne sX9_isOne.1.cls kX9_isOne = true := by decide +kernel
set_option maxRecDepth 100000 in
set_option maxHeartbeats 4000000 in
theorem xX9_isOne_0 {K : Nat} {h : xm_H} {P : Option Value → xm_H → Prop} {a0 : Nat} {x1 : Int32} (H :
    ∃ f1, xm_fld h a0 9 1 = some (.int f1) ∧ /- many -/
    xm_Call K sX9_in 99 [.int x1, .int (0 : Int32), .int (f1 - (1 : Int32))] h (xm_pi fun c3 h2 =>
      (if c3 = 0 ∨ c3 = 1 then P (some (.int c3)) h2 else False))) :
    xm_L K sX9_isOne kX9_isOne 0 [some (.ref a0), some (.int x1)] [] h P :=
  xm_run (fun _ _ h => h) oX9_isOne 9 0 0 0 [some (.ref a0), some (.int x1)] [] h H
set_option maxRecDepth 100000 in
theorem eX9_isOne {K K' : Nat} (hK : K < K') {h : xm_H} {P : Option Value → xm_H → Prop} {a0 : Nat} {x1 : Int32} (hr : ∃ fs, h[a0]? = some (.inr (9, fs))) (H :
    ∃ f1, xm_fld h a0 9 1 = some (.int f1) ∧ /- many -/
    xm_Call K sX9_in 99 [.int x1, .int (0 : Int32), .int (f1 - (1 : Int32))] h (xm_pi fun c3 h2 =>
      (if c3 = 0 ∨ c3 = 1 then P (some (.int c3)) h2 else False))) :
    xm_Call K' sX9_isOne 9 [.ref a0, .int x1] h P :=
  xm_call_of (C := kX9_isOne) hK (by decide +kernel) rfl (Nat.le_of_ble_eq_true rfl) (Or.inr ⟨a0, hr.choose, rfl, hr.choose_spec⟩) (xX9_isOne_0 H)

def kX9_addOne : List xm_I := [
  i_0 0 (.aload_n 0) 1 none,
  i_f 1 (.getfield 7) 3 none 9 2 [927] 1,
  i_0 4 (.aload_n 0) 1 none,
  i_f 5 (.getfield 125) 3 none 9 1 [926] 0,
  i_0 8 (.iload_n 1) 1 none,
  i_0 9 (.iastore) 1 none,
  i_0 10 (.aload_n 0) 1 none,
  i_f 11 (.getfield 13) 3 none 9 3 [928] 1,
  i_0 14 (.aload_n 0) 1 none,
  i_f 15 (.getfield 125) 3 none 9 1 [926] 0,
  i_v 18 (.bipush 100) 2 none 100 [],
  i_0 20 (.iastore) 1 none,
  i_0 21 (.aload_n 0) 1 none,
  i_f 22 (.getfield 16) 3 none 9 4 [929] 1,
  i_0 25 (.aload_n 0) 1 none,
  i_f 26 (.getfield 125) 3 none 9 1 [926] 0,
  i_0 29 (.iload_n 2) 1 none,
  i_0 30 (.iastore) 1 none,
  i_0 31 (.aload_n 0) 1 none,
  i_f 32 (.getfield 19) 3 none 9 5 [930] 1,
  i_0 35 (.aload_n 0) 1 none,
  i_f 36 (.getfield 125) 3 none 9 1 [926] 0,
  i_0 39 (.iload_n 3) 1 none,
  i_0 40 (.iastore) 1 none,
  i_0 41 (.aload_n 0) 1 none,
  i_f 42 (.getfield 25) 3 none 9 7 [932] 1,
  i_0 45 (.aload_n 0) 1 none,
  i_f 46 (.getfield 125) 3 none 9 1 [926] 0,
  i_v 49 (.iconst 1) 1 none 1 [],
  i_0 50 (.iastore) 1 none,
  i_0 51 (.aload_n 0) 1 none,
  i_f 52 (.getfield 28) 3 none 9 8 [933] 1,
  i_0 55 (.aload_n 0) 1 none,
  i_f 56 (.getfield 125) 3 none 9 1 [926] 0,
  i_v 59 (.bipush 10) 2 none 10 [],
  i_0 61 (.iastore) 1 none,
  i_0 62 (.aload_n 0) 1 none,
  i_0 63 (.dup) 1 none,
  i_f 64 (.getfield 125) 3 none 9 1 [926] 0,
  i_v 67 (.iconst 1) 1 none 1 [],
  i_0 68 (.iadd) 1 none,
  i_f 69 (.putfield 125) 3 none 9 1 [926] 0,
  i_0 72 (.aload_n 0) 1 none,
  i_f 73 (.getfield 125) 3 none 9 1 [926] 0,
  i_v 76 (.iconst 1) 1 none 1 [],
  i_0 77 (.isub) 1 none,
  i_0 78 (.ireturn) 1 none]
set_option maxRecDepth 100000 in
theorem oX9_addOne : xm_ok sX9_addOne sX9_addOne.1.cls kX9_addOne = true := by decide +kernel
set_option maxRecDepth 100000 in
set_option maxHeartbeats 4000000 in
theorem xX9_addOne_0 {K : Nat} {h : xm_H} {P : Option Value → xm_H → Prop} {a0 : Nat} {x1 : Int32} {x2 : Int32} {x3 : Int32} (H :
    ∃ q1, xm_fld h a0 9 2 = some (.ref q1) ∧ /- wishOf -/
    ∃ f2, xm_fld h a0 9 1 = some (.int f2) ∧ /- many -/
    ∃ h3, xm_sto h 0 q1 f2 x1 = some h3 ∧
    ∃ q4, xm_fld h3 a0 9 3 = some (.ref q4) ∧ /- purseOf -/
    ∃ f5, xm_fld h3 a0 9 1 = some (.int f5) ∧ /- many -/
    ∃ h6, xm_sto h3 0 q4 f5 (100 : Int32) = some h6 ∧
    ∃ q7, xm_fld h6 a0 9 4 = some (.ref q7) ∧ /- ageOf -/
    ∃ f8, xm_fld h6 a0 9 1 = some (.int f8) ∧ /- many -/
    ∃ h9, xm_sto h6 0 q7 f8 x2 = some h9 ∧
    ∃ q10, xm_fld h9 a0 9 5 = some (.ref q10) ∧ /- habitOf -/
    ∃ f11, xm_fld h9 a0 9 1 = some (.int f11) ∧ /- many -/
    ∃ h12, xm_sto h9 0 q10 f11 x3 = some h12 ∧
    ∃ q13, xm_fld h12 a0 9 7 = some (.ref q13) ∧ /- heardOf -/
    ∃ f14, xm_fld h12 a0 9 1 = some (.int f14) ∧ /- many -/
    ∃ h15, xm_sto h12 0 q13 f14 (1 : Int32) = some h15 ∧
    ∃ q16, xm_fld h15 a0 9 8 = some (.ref q16) ∧ /- earnsOf -/
    ∃ f17, xm_fld h15 a0 9 1 = some (.int f17) ∧ /- many -/
    ∃ h18, xm_sto h15 0 q16 f17 (10 : Int32) = some h18 ∧
    ∃ f19, xm_fld h18 a0 9 1 = some (.int f19) ∧ /- many -/
    ∃ h20, xm_put h18 a0 9 1 (.int (f19 + (1 : Int32))) = some h20 ∧ /- many -/
    ∃ f21, xm_fld h20 a0 9 1 = some (.int f21) ∧ /- many -/
    P (some (.int (f21 - (1 : Int32)))) h20) :
    xm_L K sX9_addOne kX9_addOne 0 [some (.ref a0), some (.int x1), some (.int x2), some (.int x3)] [] h P :=
  xm_run (fun _ _ h => h) oX9_addOne 48 0 0 0 [some (.ref a0), some (.int x1), some (.int x2), some (.int x3)] [] h H
set_option maxRecDepth 100000 in
theorem eX9_addOne {K K' : Nat} (hK : K < K') {h : xm_H} {P : Option Value → xm_H → Prop} {a0 : Nat} {x1 : Int32} {x2 : Int32} {x3 : Int32} (hr : ∃ fs, h[a0]? = some (.inr (9, fs))) (H :
    ∃ q1, xm_fld h a0 9 2 = some (.ref q1) ∧ /- wishOf -/
    ∃ f2, xm_fld h a0 9 1 = some (.int f2) ∧ /- many -/
    ∃ h3, xm_sto h 0 q1 f2 x1 = some h3 ∧
    ∃ q4, xm_fld h3 a0 9 3 = some (.ref q4) ∧ /- purseOf -/
    ∃ f5, xm_fld h3 a0 9 1 = some (.int f5) ∧ /- many -/
    ∃ h6, xm_sto h3 0 q4 f5 (100 : Int32) = some h6 ∧
    ∃ q7, xm_fld h6 a0 9 4 = some (.ref q7) ∧ /- ageOf -/
    ∃ f8, xm_fld h6 a0 9 1 = some (.int f8) ∧ /- many -/
    ∃ h9, xm_sto h6 0 q7 f8 x2 = some h9 ∧
    ∃ q10, xm_fld h9 a0 9 5 = some (.ref q10) ∧ /- habitOf -/
    ∃ f11, xm_fld h9 a0 9 1 = some (.int f11) ∧ /- many -/
    ∃ h12, xm_sto h9 0 q10 f11 x3 = some h12 ∧
    ∃ q13, xm_fld h12 a0 9 7 = some (.ref q13) ∧ /- heardOf -/
    ∃ f14, xm_fld h12 a0 9 1 = some (.int f14) ∧ /- many -/
    ∃ h15, xm_sto h12 0 q13 f14 (1 : Int32) = some h15 ∧
    ∃ q16, xm_fld h15 a0 9 8 = some (.ref q16) ∧ /- earnsOf -/
    ∃ f17, xm_fld h15 a0 9 1 = some (.int f17) ∧ /- many -/
    ∃ h18, xm_sto h15 0 q16 f17 (10 : Int32) = some h18 ∧
    ∃ f19, xm_fld h18 a0 9 1 = some (.int f19) ∧ /- many -/
    ∃ h20, xm_put h18 a0 9 1 (.int (f19 + (1 : Int32))) = some h20 ∧ /- many -/
    ∃ f21, xm_fld h20 a0 9 1 = some (.int f21) ∧ /- many -/
    P (some (.int (f21 - (1 : Int32)))) h20) :
    xm_Call K' sX9_addOne 9 [.ref a0, .int x1, .int x2, .int x3] h P :=
  xm_call_of (C := kX9_addOne) hK (by decide +kernel) rfl (Nat.le_of_ble_eq_true rfl) (Or.inr ⟨a0, hr.choose, rfl, hr.choose_spec⟩) (xX9_addOne_0 H)

def kX9_person : List xm_I := [
  i_0 0 (.iload_n 1) 1 none,
  i_v 1 (.iconst 0) 1 none 0 [],
  i_v 2 (.bipush 99) 2 none 99 [],
  i_m 4 (.invokestatic 128) 3 none 3 99 [1106, 1107, 117, 1108] 0 sX9_in,
  i_j 7 (.ifCond .eq 11) 3 none 10,
  i_0 10 (.iload_n 1) 1 none,
  i_v 11 (.bipush 10) 2 none 10 [],
  i_0 13 (.irem) 1 none,
  i_v 14 (.iconst 4) 1 none 4 [],
  i_j 15 (.if_icmp .lt 5) 3 none 12,
  i_v 18 (.iconst (-1)) 1 none (-1) [],
  i_0 19 (.ireturn) 1 none,
  i_0 20 (.aload_n 0) 1 none,
  i_f 21 (.getfield 125) 3 none 9 1 [926] 0,
  i_v 24 (.bipush 8) 2 none 8 [],
  i_j 26 (.if_icmp .ne 8) 3 none 18,
  i_v 29 (.bipush (-3)) 2 none (-3) [],
  i_j 31 (.goto 17) 3 none 27,
  i_0 34 (.aload_n 0) 1 none,
  i_0 35 (.iload_n 1) 1 none,
  i_v 36 (.bipush 10) 2 none 10 [],
  i_0 38 (.idiv) 1 none,
  i_v 39 (.bipush 30) 2 none 30 [],
  i_0 41 (.iload_n 1) 1 none,
  i_v 42 (.bipush 10) 2 none 10 [],
  i_0 44 (.irem) 1 none,
  i_m 45 (.invokevirtual 132) 3 none 3 9 [1109, 1111, 34, 117, 1112] 0 sX9_addOne,
  i_0 48 (.ireturn) 1 none]
set_option maxRecDepth 100000 in
theorem oX9_person : xm_ok sX9_person sX9_person.1.cls kX9_person = true := by decide +kernel
set_option maxRecDepth 100000 in
set_option maxHeartbeats 4000000 in
theorem xX9_person_0 {K : Nat} {h : xm_H} {P : Option Value → xm_H → Prop} {a0 : Nat} {x1 : Int32} (H :
    xm_Call K sX9_in 99 [.int x1, .int (0 : Int32), .int (99 : Int32)] h (xm_pi fun c2 h1 =>
      (if c2 = 0 then
        P (some (.int (-1 : Int32))) h1
      else
        ¬ (10 : Int32) = 0 ∧
        (if (x1 - x1 / (10 : Int32) * (10 : Int32)) < (4 : Int32) then
          ∃ f3, xm_fld h1 a0 9 1 = some (.int f3) ∧ /- many -/
          (if f3 = (8 : Int32) then
            P (some (.int (-3 : Int32))) h1
          else
            ¬ (10 : Int32) = 0 ∧
            ¬ (10 : Int32) = 0 ∧
            xm_Call K sX9_addOne 9 [.ref a0, .int (x1 / (10 : Int32)), .int (30 : Int32), .int (x1 - x1 / (10 : Int32) * (10 : Int32))] h1 (xm_pi fun c5 h4 =>
              P (some (.int c5)) h4))
        else
          P (some (.int (-1 : Int32))) h1)))) :
    xm_L K sX9_person kX9_person 0 [some (.ref a0), some (.int x1)] [] h P :=
  xm_run (fun _ _ h => h) oX9_person 25 0 0 0 [some (.ref a0), some (.int x1)] [] h H
set_option maxRecDepth 100000 in
theorem eX9_person {K K' : Nat} (hK : K < K') {h : xm_H} {P : Option Value → xm_H → Prop} {a0 : Nat} {x1 : Int32} (hr : ∃ fs, h[a0]? = some (.inr (9, fs))) (H :
    xm_Call K sX9_in 99 [.int x1, .int (0 : Int32), .int (99 : Int32)] h (xm_pi fun c2 h1 =>
      (if c2 = 0 then
        P (some (.int (-1 : Int32))) h1
      else
        ¬ (10 : Int32) = 0 ∧
        (if (x1 - x1 / (10 : Int32) * (10 : Int32)) < (4 : Int32) then
          ∃ f3, xm_fld h1 a0 9 1 = some (.int f3) ∧ /- many -/
          (if f3 = (8 : Int32) then
            P (some (.int (-3 : Int32))) h1
          else
            ¬ (10 : Int32) = 0 ∧
            ¬ (10 : Int32) = 0 ∧
            xm_Call K sX9_addOne 9 [.ref a0, .int (x1 / (10 : Int32)), .int (30 : Int32), .int (x1 - x1 / (10 : Int32) * (10 : Int32))] h1 (xm_pi fun c5 h4 =>
              P (some (.int c5)) h4))
        else
          P (some (.int (-1 : Int32))) h1)))) :
    xm_Call K' sX9_person 9 [.ref a0, .int x1] h P :=
  xm_call_of (C := kX9_person) hK (by decide +kernel) rfl (Nat.le_of_ble_eq_true rfl) (Or.inr ⟨a0, hr.choose, rfl, hr.choose_spec⟩) (xX9_person_0 H)

def kX9_people : List xm_I := [
  i_0 0 (.iload_n 1) 1 none,
  i_m 1 (.invokestatic 136) 3 none 1 99 [1117, 1118, 117, 1119] 0 sX9_isShelf,
  i_j 4 (.ifCond .eq 13) 3 none 8,
  i_0 7 (.iload_n 3) 1 none,
  i_v 8 (.iconst 1) 1 none 1 [],
  i_v 9 (.bipush 8) 2 none 8 [],
  i_m 11 (.invokestatic 128) 3 none 3 99 [1106, 1107, 117, 1108] 0 sX9_in,
  i_j 14 (.ifCond .ne 5) 3 none 10,
  i_v 17 (.iconst (-1)) 1 none (-1) [],
  i_0 18 (.ireturn) 1 none,
  i_0 19 (.aload_n 0) 1 none,
  i_f 20 (.getfield 108) 3 none 9 54 [979] 1,
  i_0 23 (.iload_n 1) 1 none,
  i_0 24 (.iaload) 1 none,
  i_v 25 (.iconst (-1)) 1 none (-1) [],
  i_j 26 (.if_icmp .eq 17) 3 none 24,
  i_0 29 (.aload_n 0) 1 none,
  i_f 30 (.getfield 108) 3 none 9 54 [979] 1,
  i_0 33 (.iload_n 1) 1 none,
  i_0 34 (.iaload) 1 none,
  i_v 35 (.bipush (-2)) 2 none (-2) [],
  i_j 37 (.if_icmp .eq 6) 3 none 24,
  i_v 40 (.bipush (-12)) 2 none (-12) [],
  i_0 42 (.ireturn) 1 none,
  i_0 43 (.aload_n 0) 1 none,
  i_f 44 (.getfield 108) 3 none 9 54 [979] 1,
  i_0 47 (.iload_n 1) 1 none,
  i_0 48 (.iaload) 1 none,
  i_v 49 (.iconst (-1)) 1 none (-1) [],
  i_j 50 (.if_icmp .ne 5) 3 none 32,
  i_v 53 (.iconst 0) 1 none 0 [],
  i_0 54 (.ireturn) 1 none,
  i_v 55 (.iconst 0) 1 none 0 [],
  i_0 56 (.istore 4) 2 none,
  i_0 58 (.iload 4) 2 (some [true, true, true, true, true, false, false, false]),
  i_0 60 (.iload_n 3) 1 none,
  i_j 61 (.if_icmp .ge 155) 3 none 129,
  i_0 64 (.iload_n 2) 1 none,
  i_0 65 (.i2l) 1 none,
  i_v 66 (.iconst 3) 1 none 3 [],
  i_0 67 (.iload 4) 2 none,
  i_0 69 (.imul) 1 none,
  i_0 70 (.i2l) 1 none,
  i_0 71 (.ladd) 1 none,
  i_0 72 (.lstore 5) 2 none,
  i_0 74 (.lload 5) 2 none,
  i_w 76 (.lconst 0) 1 none 0 [],
  i_0 77 (.lcmp) 1 none,
  i_j 78 (.ifCond .lt 29) 3 none 63,
  i_0 81 (.lload 5) 2 none,
  i_w 83 (.ldc2_w 140) 3 none 2 [1120],
  i_0 86 (.ladd) 1 none,
  i_0 87 (.aload_n 0) 1 none,
  i_f 88 (.getfield 111) 3 none 9 55 [980] 1,
  i_0 91 (.iload_n 1) 1 none,
  i_0 92 (.iaload) 1 none,
  i_0 93 (.i2l) 1 none,
  i_0 94 (.lcmp) 1 none,
  i_j 95 (.ifCond .ge 12) 3 none 63,
  i_0 98 (.aload_n 0) 1 none,
  i_f 99 (.getfield 125) 3 none 9 1 [926] 0,
  i_v 102 (.bipush 8) 2 none 8 [],
  i_j 104 (.if_icmp .ne 6) 3 none 65,
  i_0 107 (.iload 4) 2 none,
  i_0 109 (.ireturn) 1 none,
  i_v 110 (.bipush 60) 2 none 60 [],
  i_0 112 (.iload_n 1) 1 none,
  i_0 113 (.imul) 1 none,
  i_0 114 (.lload 5) 2 none,
  i_0 116 (.l2i) 1 none,
  i_0 117 (.iadd) 1 none,
  i_0 118 (.istore 7) 2 none,
  i_0 120 (.aload_n 0) 1 none,
  i_f 121 (.getfield 114) 3 none 9 56 [981] 1,
  i_0 124 (.iload 7) 2 none,
  i_0 126 (.laload) 1 none,
  i_0 127 (.l2i) 1 none,
  i_v 128 (.iconst 0) 1 none 0 [],
  i_v 129 (.bipush 9) 2 none 9 [],
  i_m 131 (.invokestatic 128) 3 none 3 99 [1106, 1107, 117, 1108] 0 sX9_in,
  i_j 134 (.ifCond .eq 40) 3 none 103,
  i_0 137 (.aload_n 0) 1 none,
  i_f 138 (.getfield 114) 3 none 9 56 [981] 1,
  i_0 141 (.iload 7) 2 none,
  i_v 143 (.iconst 1) 1 none 1 [],
  i_0 144 (.iadd) 1 none,
  i_0 145 (.laload) 1 none,
  i_0 146 (.l2i) 1 none,
  i_v 147 (.iconst 0) 1 none 0 [],
  i_v 148 (.bipush 99) 2 none 99 [],
  i_m 150 (.invokestatic 128) 3 none 3 99 [1106, 1107, 117, 1108] 0 sX9_in,
  i_j 153 (.ifCond .eq 21) 3 none 103,
  i_0 156 (.aload_n 0) 1 none,
  i_f 157 (.getfield 114) 3 none 9 56 [981] 1,
  i_0 160 (.iload 7) 2 none,
  i_v 162 (.iconst 2) 1 none 2 [],
  i_0 163 (.iadd) 1 none,
  i_0 164 (.laload) 1 none,
  i_0 165 (.l2i) 1 none,
  i_v 166 (.iconst 0) 1 none 0 [],
  i_v 167 (.iconst 3) 1 none 3 [],
  i_m 168 (.invokestatic 128) 3 none 3 99 [1106, 1107, 117, 1108] 0 sX9_in,
  i_j 171 (.ifCond .ne 6) 3 none 105,
  i_0 174 (.iload 4) 2 none,
  i_0 176 (.ireturn) 1 none,
  i_0 177 (.aload_n 0) 1 none,
  i_0 178 (.aload_n 0) 1 none,
  i_f 179 (.getfield 114) 3 none 9 56 [981] 1,
  i_0 182 (.iload 7) 2 none,
  i_0 184 (.laload) 1 none,
  i_0 185 (.l2i) 1 none,
  i_0 186 (.aload_n 0) 1 none,
  i_f 187 (.getfield 114) 3 none 9 56 [981] 1,
  i_0 190 (.iload 7) 2 none,
  i_v 192 (.iconst 1) 1 none 1 [],
  i_0 193 (.iadd) 1 none,
  i_0 194 (.laload) 1 none,
  i_0 195 (.l2i) 1 none,
  i_0 196 (.aload_n 0) 1 none,
  i_f 197 (.getfield 114) 3 none 9 56 [981] 1,
  i_0 200 (.iload 7) 2 none,
  i_v 202 (.iconst 2) 1 none 2 [],
  i_0 203 (.iadd) 1 none,
  i_0 204 (.laload) 1 none,
  i_0 205 (.l2i) 1 none,
  i_m 206 (.invokevirtual 132) 3 none 3 9 [1109, 1111, 34, 117, 1112] 0 sX9_addOne,
  i_0 209 (.pop) 1 none,
  i_v 210 (.iinc 4 1) 3 none 1 [],
  i_j 213 (.goto (-155)) 3 none 34,
  i_0 216 (.iload_n 3) 1 none,
  i_0 217 (.ireturn) 1 none]
set_option maxRecDepth 100000 in
theorem oX9_people : xm_ok sX9_people sX9_people.1.cls kX9_people = true := by decide +kernel
set_option maxRecDepth 100000 in
set_option maxHeartbeats 4000000 in
theorem xX9_people_0 {K : Nat} {h : xm_H} {P : Option Value → xm_H → Prop} {a0 : Nat} {x1 : Int32} {x2 : Int32} {x3 : Int32} (H :
    xm_Call K sX9_isShelf 99 [.int x1] h (xm_pi fun c2 h1 =>
      (if c2 = 0 then
        P (some (.int (-1 : Int32))) h1
      else
        xm_Call K sX9_in 99 [.int x3, .int (1 : Int32), .int (8 : Int32)] h1 (xm_pi fun c4 h3 =>
          (if c4 = 0 then
            P (some (.int (-1 : Int32))) h3
          else
            ∃ q5, xm_fld h3 a0 9 54 = some (.ref q5) ∧ /- holds -/
            ∃ e6, xm_ld xm_st h3 0 q5 x1 = some e6 ∧
            (if e6 = (-1 : Int32) then
              ∃ q7, xm_fld h3 a0 9 54 = some (.ref q7) ∧ /- holds -/
              ∃ e8, xm_ld xm_st h3 0 q7 x1 = some e8 ∧
              (if e8 = (-1 : Int32) then
                P (some (.int (0 : Int32))) h3
              else
                xm_L K sX9_people kX9_people 34 [some (.ref a0), some (.int x1), some (.int x2), some (.int x3), some (.int (0 : Int32)), none, none, none] [] h3 P)
            else
              ∃ q9, xm_fld h3 a0 9 54 = some (.ref q9) ∧ /- holds -/
              ∃ e10, xm_ld xm_st h3 0 q9 x1 = some e10 ∧
              (if e10 = (-2 : Int32) then
                ∃ q11, xm_fld h3 a0 9 54 = some (.ref q11) ∧ /- holds -/
                ∃ e12, xm_ld xm_st h3 0 q11 x1 = some e12 ∧
                (if e12 = (-1 : Int32) then
                  P (some (.int (0 : Int32))) h3
                else
                  xm_L K sX9_people kX9_people 34 [some (.ref a0), some (.int x1), some (.int x2), some (.int x3), some (.int (0 : Int32)), none, none, none] [] h3 P)
              else
                P (some (.int (-12 : Int32))) h3))))))) :
    xm_L K sX9_people kX9_people 0 [some (.ref a0), some (.int x1), some (.int x2), some (.int x3), none, none, none, none] [] h P :=
  xm_run (fun _ _ h => h) oX9_people 29 0 0 0 [some (.ref a0), some (.int x1), some (.int x2), some (.int x3), none, none, none, none] [] h H
set_option maxRecDepth 100000 in
theorem eX9_people {K K' : Nat} (hK : K < K') {h : xm_H} {P : Option Value → xm_H → Prop} {a0 : Nat} {x1 : Int32} {x2 : Int32} {x3 : Int32} (hr : ∃ fs, h[a0]? = some (.inr (9, fs))) (H :
    xm_Call K sX9_isShelf 99 [.int x1] h (xm_pi fun c2 h1 =>
      (if c2 = 0 then
        P (some (.int (-1 : Int32))) h1
      else
        xm_Call K sX9_in 99 [.int x3, .int (1 : Int32), .int (8 : Int32)] h1 (xm_pi fun c4 h3 =>
          (if c4 = 0 then
            P (some (.int (-1 : Int32))) h3
          else
            ∃ q5, xm_fld h3 a0 9 54 = some (.ref q5) ∧ /- holds -/
            ∃ e6, xm_ld xm_st h3 0 q5 x1 = some e6 ∧
            (if e6 = (-1 : Int32) then
              ∃ q7, xm_fld h3 a0 9 54 = some (.ref q7) ∧ /- holds -/
              ∃ e8, xm_ld xm_st h3 0 q7 x1 = some e8 ∧
              (if e8 = (-1 : Int32) then
                P (some (.int (0 : Int32))) h3
              else
                xm_L K sX9_people kX9_people 34 [some (.ref a0), some (.int x1), some (.int x2), some (.int x3), some (.int (0 : Int32)), none, none, none] [] h3 P)
            else
              ∃ q9, xm_fld h3 a0 9 54 = some (.ref q9) ∧ /- holds -/
              ∃ e10, xm_ld xm_st h3 0 q9 x1 = some e10 ∧
              (if e10 = (-2 : Int32) then
                ∃ q11, xm_fld h3 a0 9 54 = some (.ref q11) ∧ /- holds -/
                ∃ e12, xm_ld xm_st h3 0 q11 x1 = some e12 ∧
                (if e12 = (-1 : Int32) then
                  P (some (.int (0 : Int32))) h3
                else
                  xm_L K sX9_people kX9_people 34 [some (.ref a0), some (.int x1), some (.int x2), some (.int x3), some (.int (0 : Int32)), none, none, none] [] h3 P)
              else
                P (some (.int (-12 : Int32))) h3))))))) :
    xm_Call K' sX9_people 9 [.ref a0, .int x1, .int x2, .int x3] h P :=
  xm_call_of (C := kX9_people) hK (by decide +kernel) rfl (Nat.le_of_ble_eq_true rfl) (Or.inr ⟨a0, hr.choose, rfl, hr.choose_spec⟩) (xX9_people_0 H)

set_option maxRecDepth 100000 in
set_option maxHeartbeats 4000000 in
theorem xX9_people_34 {K : Nat} {h : xm_H} {P : Option Value → xm_H → Prop} {a0 : Nat} {x1 : Int32} {x2 : Int32} {x3 : Int32} {x4 : Int32} (H :
    (if x4 < x3 then
      (if (lg_cmp ((Int32.toInt64 x2) + (Int32.toInt64 ((3 : Int32) * x4))) (0 : Int64)) < 0 then
        P (some (.int x4)) h
      else
        ∃ q1, xm_fld h a0 9 55 = some (.ref q1) ∧ /- size -/
        ∃ e2, xm_ld xm_st h 0 q1 x1 = some e2 ∧
        (if (lg_cmp (((Int32.toInt64 x2) + (Int32.toInt64 ((3 : Int32) * x4))) + (2 : Int64)) (Int32.toInt64 e2)) < 0 then
          ∃ f3, xm_fld h a0 9 1 = some (.int f3) ∧ /- many -/
          (if f3 = (8 : Int32) then
            P (some (.int x4)) h
          else
            ∃ q4, xm_fld h a0 9 56 = some (.ref q4) ∧ /- elements -/
            ∃ e5, xm_ldL h q4 (((60 : Int32) * x1) + (Int64.toInt32 ((Int32.toInt64 x2) + (Int32.toInt64 ((3 : Int32) * x4))))) = some e5 ∧
            xm_Call K sX9_in 99 [.int (Int64.toInt32 e5), .int (0 : Int32), .int (9 : Int32)] h (xm_pi fun c7 h6 =>
              (if c7 = 0 then
                P (some (.int x4)) h6
              else
                ∃ q8, xm_fld h6 a0 9 56 = some (.ref q8) ∧ /- elements -/
                ∃ e9, xm_ldL h6 q8 ((((60 : Int32) * x1) + (Int64.toInt32 ((Int32.toInt64 x2) + (Int32.toInt64 ((3 : Int32) * x4))))) + (1 : Int32)) = some e9 ∧
                xm_Call K sX9_in 99 [.int (Int64.toInt32 e9), .int (0 : Int32), .int (99 : Int32)] h6 (xm_pi fun c11 h10 =>
                  (if c11 = 0 then
                    P (some (.int x4)) h10
                  else
                    ∃ q12, xm_fld h10 a0 9 56 = some (.ref q12) ∧ /- elements -/
                    ∃ e13, xm_ldL h10 q12 ((((60 : Int32) * x1) + (Int64.toInt32 ((Int32.toInt64 x2) + (Int32.toInt64 ((3 : Int32) * x4))))) + (2 : Int32)) = some e13 ∧
                    xm_Call K sX9_in 99 [.int (Int64.toInt32 e13), .int (0 : Int32), .int (3 : Int32)] h10 (xm_pi fun c15 h14 =>
                      (if c15 = 0 then
                        P (some (.int x4)) h14
                      else
                        ∃ q16, xm_fld h14 a0 9 56 = some (.ref q16) ∧ /- elements -/
                        ∃ e17, xm_ldL h14 q16 (((60 : Int32) * x1) + (Int64.toInt32 ((Int32.toInt64 x2) + (Int32.toInt64 ((3 : Int32) * x4))))) = some e17 ∧
                        ∃ q18, xm_fld h14 a0 9 56 = some (.ref q18) ∧ /- elements -/
                        ∃ e19, xm_ldL h14 q18 ((((60 : Int32) * x1) + (Int64.toInt32 ((Int32.toInt64 x2) + (Int32.toInt64 ((3 : Int32) * x4))))) + (1 : Int32)) = some e19 ∧
                        ∃ q20, xm_fld h14 a0 9 56 = some (.ref q20) ∧ /- elements -/
                        ∃ e21, xm_ldL h14 q20 ((((60 : Int32) * x1) + (Int64.toInt32 ((Int32.toInt64 x2) + (Int32.toInt64 ((3 : Int32) * x4))))) + (2 : Int32)) = some e21 ∧
                        xm_Call K sX9_addOne 9 [.ref a0, .int (Int64.toInt32 e17), .int (Int64.toInt32 e19), .int (Int64.toInt32 e21)] h14 (xm_pi fun c23 h22 =>
                          xm_L K sX9_people kX9_people 34 [some (.ref a0), some (.int x1), some (.int x2), some (.int x3), some (.int (x4 + (1 : Int32))), none, none, none] [] h22 P))))))))
        else
          P (some (.int x4)) h))
    else
      P (some (.int x3)) h)) :
    xm_L K sX9_people kX9_people 34 [some (.ref a0), some (.int x1), some (.int x2), some (.int x3), some (.int x4), none, none, none] [] h P :=
  xm_run (fun _ _ h => h) oX9_people 92 34 0 0 [some (.ref a0), some (.int x1), some (.int x2), some (.int x3), some (.int x4), none, none, none] [] h H

def kX9_valueAt : List xm_I := [
  i_0 0 (.iload_n 1) 1 none,
  i_s 1 (.tableswitch 103 0 7 #[47, 54, 61, 68, 75, 82, 89, 96]) 47 none 42 [(0, 2), (1, 7), (2, 12), (3, 17), (4, 22), (5, 27), (6, 32), (7, 37)],
  i_0 48 (.aload_n 0) 1 none,
  i_f 49 (.getfield 7) 3 none 9 2 [927] 1,
  i_0 52 (.iload_n 2) 1 none,
  i_0 53 (.iaload) 1 none,
  i_0 54 (.ireturn) 1 none,
  i_0 55 (.aload_n 0) 1 none,
  i_f 56 (.getfield 13) 3 none 9 3 [928] 1,
  i_0 59 (.iload_n 2) 1 none,
  i_0 60 (.iaload) 1 none,
  i_0 61 (.ireturn) 1 none,
  i_0 62 (.aload_n 0) 1 none,
  i_f 63 (.getfield 16) 3 none 9 4 [929] 1,
  i_0 66 (.iload_n 2) 1 none,
  i_0 67 (.iaload) 1 none,
  i_0 68 (.ireturn) 1 none,
  i_0 69 (.aload_n 0) 1 none,
  i_f 70 (.getfield 19) 3 none 9 5 [930] 1,
  i_0 73 (.iload_n 2) 1 none,
  i_0 74 (.iaload) 1 none,
  i_0 75 (.ireturn) 1 none,
  i_0 76 (.aload_n 0) 1 none,
  i_f 77 (.getfield 22) 3 none 9 6 [931] 1,
  i_0 80 (.iload_n 2) 1 none,
  i_0 81 (.iaload) 1 none,
  i_0 82 (.ireturn) 1 none,
  i_0 83 (.aload_n 0) 1 none,
  i_f 84 (.getfield 25) 3 none 9 7 [932] 1,
  i_0 87 (.iload_n 2) 1 none,
  i_0 88 (.iaload) 1 none,
  i_0 89 (.ireturn) 1 none,
  i_0 90 (.aload_n 0) 1 none,
  i_f 91 (.getfield 28) 3 none 9 8 [933] 1,
  i_0 94 (.iload_n 2) 1 none,
  i_0 95 (.iaload) 1 none,
  i_0 96 (.ireturn) 1 none,
  i_0 97 (.aload_n 0) 1 none,
  i_f 98 (.getfield 31) 3 none 9 9 [934] 1,
  i_0 101 (.iload_n 2) 1 none,
  i_0 102 (.iaload) 1 none,
  i_0 103 (.ireturn) 1 none,
  i_0 104 (.aload_n 0) 1 none,
  i_f 105 (.getfield 34) 3 none 9 10 [935] 1,
  i_0 108 (.iload_n 1) 1 none,
  i_v 109 (.bipush 8) 2 none 8 [],
  i_0 111 (.isub) 1 none,
  i_0 112 (.iaload) 1 none,
  i_0 113 (.ireturn) 1 none]
set_option maxRecDepth 100000 in
theorem oX9_valueAt : xm_ok sX9_valueAt sX9_valueAt.1.cls kX9_valueAt = true := by decide +kernel
set_option maxRecDepth 100000 in
set_option maxHeartbeats 4000000 in
theorem xX9_valueAt_0 {K : Nat} {h : xm_H} {P : Option Value → xm_H → Prop} {a0 : Nat} {x1 : Int32} {x2 : Int32} (H :
    (if x1 = 0 then
      ∃ q1, xm_fld h a0 9 2 = some (.ref q1) ∧ /- wishOf -/
      ∃ e2, xm_ld xm_st h 0 q1 x2 = some e2 ∧
      P (some (.int e2)) h
    else
    (if x1 = 1 then
      ∃ q3, xm_fld h a0 9 3 = some (.ref q3) ∧ /- purseOf -/
      ∃ e4, xm_ld xm_st h 0 q3 x2 = some e4 ∧
      P (some (.int e4)) h
    else
    (if x1 = 2 then
      ∃ q5, xm_fld h a0 9 4 = some (.ref q5) ∧ /- ageOf -/
      ∃ e6, xm_ld xm_st h 0 q5 x2 = some e6 ∧
      P (some (.int e6)) h
    else
    (if x1 = 3 then
      ∃ q7, xm_fld h a0 9 5 = some (.ref q7) ∧ /- habitOf -/
      ∃ e8, xm_ld xm_st h 0 q7 x2 = some e8 ∧
      P (some (.int e8)) h
    else
    (if x1 = 4 then
      ∃ q9, xm_fld h a0 9 6 = some (.ref q9) ∧ /- kindOf -/
      ∃ e10, xm_ld xm_st h 0 q9 x2 = some e10 ∧
      P (some (.int e10)) h
    else
    (if x1 = 5 then
      ∃ q11, xm_fld h a0 9 7 = some (.ref q11) ∧ /- heardOf -/
      ∃ e12, xm_ld xm_st h 0 q11 x2 = some e12 ∧
      P (some (.int e12)) h
    else
    (if x1 = 6 then
      ∃ q13, xm_fld h a0 9 8 = some (.ref q13) ∧ /- earnsOf -/
      ∃ e14, xm_ld xm_st h 0 q13 x2 = some e14 ∧
      P (some (.int e14)) h
    else
    (if x1 = 7 then
      ∃ q15, xm_fld h a0 9 9 = some (.ref q15) ∧ /- snows -/
      ∃ e16, xm_ld xm_st h 0 q15 x2 = some e16 ∧
      P (some (.int e16)) h
    else
    ∃ q17, xm_fld h a0 9 10 = some (.ref q17) ∧ /- pass -/
    ∃ e18, xm_ld xm_st h 0 q17 (x1 - (8 : Int32)) = some e18 ∧
    P (some (.int e18)) h))))))))) :
    xm_L K sX9_valueAt kX9_valueAt 0 [some (.ref a0), some (.int x1), some (.int x2)] [] h P :=
  xm_run (fun _ _ h => h) oX9_valueAt 10 0 0 0 [some (.ref a0), some (.int x1), some (.int x2)] [] h H
set_option maxRecDepth 100000 in
theorem eX9_valueAt {K K' : Nat} (hK : K < K') {h : xm_H} {P : Option Value → xm_H → Prop} {a0 : Nat} {x1 : Int32} {x2 : Int32} (hr : ∃ fs, h[a0]? = some (.inr (9, fs))) (H :
    (if x1 = 0 then
      ∃ q1, xm_fld h a0 9 2 = some (.ref q1) ∧ /- wishOf -/
      ∃ e2, xm_ld xm_st h 0 q1 x2 = some e2 ∧
      P (some (.int e2)) h
    else
    (if x1 = 1 then
      ∃ q3, xm_fld h a0 9 3 = some (.ref q3) ∧ /- purseOf -/
      ∃ e4, xm_ld xm_st h 0 q3 x2 = some e4 ∧
      P (some (.int e4)) h
    else
    (if x1 = 2 then
      ∃ q5, xm_fld h a0 9 4 = some (.ref q5) ∧ /- ageOf -/
      ∃ e6, xm_ld xm_st h 0 q5 x2 = some e6 ∧
      P (some (.int e6)) h
    else
    (if x1 = 3 then
      ∃ q7, xm_fld h a0 9 5 = some (.ref q7) ∧ /- habitOf -/
      ∃ e8, xm_ld xm_st h 0 q7 x2 = some e8 ∧
      P (some (.int e8)) h
    else
    (if x1 = 4 then
      ∃ q9, xm_fld h a0 9 6 = some (.ref q9) ∧ /- kindOf -/
      ∃ e10, xm_ld xm_st h 0 q9 x2 = some e10 ∧
      P (some (.int e10)) h
    else
    (if x1 = 5 then
      ∃ q11, xm_fld h a0 9 7 = some (.ref q11) ∧ /- heardOf -/
      ∃ e12, xm_ld xm_st h 0 q11 x2 = some e12 ∧
      P (some (.int e12)) h
    else
    (if x1 = 6 then
      ∃ q13, xm_fld h a0 9 8 = some (.ref q13) ∧ /- earnsOf -/
      ∃ e14, xm_ld xm_st h 0 q13 x2 = some e14 ∧
      P (some (.int e14)) h
    else
    (if x1 = 7 then
      ∃ q15, xm_fld h a0 9 9 = some (.ref q15) ∧ /- snows -/
      ∃ e16, xm_ld xm_st h 0 q15 x2 = some e16 ∧
      P (some (.int e16)) h
    else
    ∃ q17, xm_fld h a0 9 10 = some (.ref q17) ∧ /- pass -/
    ∃ e18, xm_ld xm_st h 0 q17 (x1 - (8 : Int32)) = some e18 ∧
    P (some (.int e18)) h))))))))) :
    xm_Call K' sX9_valueAt 9 [.ref a0, .int x1, .int x2] h P :=
  xm_call_of (C := kX9_valueAt) hK (by decide +kernel) rfl (Nat.le_of_ble_eq_true rfl) (Or.inr ⟨a0, hr.choose, rfl, hr.choose_spec⟩) (xX9_valueAt_0 H)

def kX9_lays : List xm_I := [
  i_0 0 (.iload_n 1) 1 none,
  i_s 1 (.tableswitch 127 0 7 #[47, 57, 67, 77, 87, 97, 107, 117]) 47 none 50 [(0, 2), (1, 8), (2, 14), (3, 20), (4, 26), (5, 32), (6, 38), (7, 44)],
  i_0 48 (.aload_n 0) 1 none,
  i_f 49 (.getfield 7) 3 none 9 2 [927] 1,
  i_0 52 (.iload_n 2) 1 none,
  i_0 53 (.iload_n 3) 1 none,
  i_0 54 (.iastore) 1 none,
  i_j 55 (.goto 83) 3 none 57,
  i_0 58 (.aload_n 0) 1 none,
  i_f 59 (.getfield 13) 3 none 9 3 [928] 1,
  i_0 62 (.iload_n 2) 1 none,
  i_0 63 (.iload_n 3) 1 none,
  i_0 64 (.iastore) 1 none,
  i_j 65 (.goto 73) 3 none 57,
  i_0 68 (.aload_n 0) 1 none,
  i_f 69 (.getfield 16) 3 none 9 4 [929] 1,
  i_0 72 (.iload_n 2) 1 none,
  i_0 73 (.iload_n 3) 1 none,
  i_0 74 (.iastore) 1 none,
  i_j 75 (.goto 63) 3 none 57,
  i_0 78 (.aload_n 0) 1 none,
  i_f 79 (.getfield 19) 3 none 9 5 [930] 1,
  i_0 82 (.iload_n 2) 1 none,
  i_0 83 (.iload_n 3) 1 none,
  i_0 84 (.iastore) 1 none,
  i_j 85 (.goto 53) 3 none 57,
  i_0 88 (.aload_n 0) 1 none,
  i_f 89 (.getfield 22) 3 none 9 6 [931] 1,
  i_0 92 (.iload_n 2) 1 none,
  i_0 93 (.iload_n 3) 1 none,
  i_0 94 (.iastore) 1 none,
  i_j 95 (.goto 43) 3 none 57,
  i_0 98 (.aload_n 0) 1 none,
  i_f 99 (.getfield 25) 3 none 9 7 [932] 1,
  i_0 102 (.iload_n 2) 1 none,
  i_0 103 (.iload_n 3) 1 none,
  i_0 104 (.iastore) 1 none,
  i_j 105 (.goto 33) 3 none 57,
  i_0 108 (.aload_n 0) 1 none,
  i_f 109 (.getfield 28) 3 none 9 8 [933] 1,
  i_0 112 (.iload_n 2) 1 none,
  i_0 113 (.iload_n 3) 1 none,
  i_0 114 (.iastore) 1 none,
  i_j 115 (.goto 23) 3 none 57,
  i_0 118 (.aload_n 0) 1 none,
  i_f 119 (.getfield 31) 3 none 9 9 [934] 1,
  i_0 122 (.iload_n 2) 1 none,
  i_0 123 (.iload_n 3) 1 none,
  i_0 124 (.iastore) 1 none,
  i_j 125 (.goto 13) 3 none 57,
  i_0 128 (.aload_n 0) 1 none,
  i_f 129 (.getfield 34) 3 none 9 10 [935] 1,
  i_0 132 (.iload_n 1) 1 none,
  i_v 133 (.bipush 8) 2 none 8 [],
  i_0 135 (.isub) 1 none,
  i_0 136 (.iload_n 3) 1 none,
  i_0 137 (.iastore) 1 none,
  i_0 138 (.return_) 1 none]
set_option maxRecDepth 100000 in
theorem oX9_lays : xm_ok sX9_lays sX9_lays.1.cls kX9_lays = true := by decide +kernel
set_option maxRecDepth 100000 in
set_option maxHeartbeats 4000000 in
theorem xX9_lays_0 {K : Nat} {h : xm_H} {P : Option Value → xm_H → Prop} {a0 : Nat} {x1 : Int32} {x2 : Int32} {x3 : Int32} (H :
    (if x1 = 0 then
      ∃ q1, xm_fld h a0 9 2 = some (.ref q1) ∧ /- wishOf -/
      ∃ h2, xm_sto h 0 q1 x2 x3 = some h2 ∧
      P none h2
    else
    (if x1 = 1 then
      ∃ q3, xm_fld h a0 9 3 = some (.ref q3) ∧ /- purseOf -/
      ∃ h4, xm_sto h 0 q3 x2 x3 = some h4 ∧
      P none h4
    else
    (if x1 = 2 then
      ∃ q5, xm_fld h a0 9 4 = some (.ref q5) ∧ /- ageOf -/
      ∃ h6, xm_sto h 0 q5 x2 x3 = some h6 ∧
      P none h6
    else
    (if x1 = 3 then
      ∃ q7, xm_fld h a0 9 5 = some (.ref q7) ∧ /- habitOf -/
      ∃ h8, xm_sto h 0 q7 x2 x3 = some h8 ∧
      P none h8
    else
    (if x1 = 4 then
      ∃ q9, xm_fld h a0 9 6 = some (.ref q9) ∧ /- kindOf -/
      ∃ h10, xm_sto h 0 q9 x2 x3 = some h10 ∧
      P none h10
    else
    (if x1 = 5 then
      ∃ q11, xm_fld h a0 9 7 = some (.ref q11) ∧ /- heardOf -/
      ∃ h12, xm_sto h 0 q11 x2 x3 = some h12 ∧
      P none h12
    else
    (if x1 = 6 then
      ∃ q13, xm_fld h a0 9 8 = some (.ref q13) ∧ /- earnsOf -/
      ∃ h14, xm_sto h 0 q13 x2 x3 = some h14 ∧
      P none h14
    else
    (if x1 = 7 then
      ∃ q15, xm_fld h a0 9 9 = some (.ref q15) ∧ /- snows -/
      ∃ h16, xm_sto h 0 q15 x2 x3 = some h16 ∧
      P none h16
    else
    ∃ q17, xm_fld h a0 9 10 = some (.ref q17) ∧ /- pass -/
    ∃ h18, xm_sto h 0 q17 (x1 - (8 : Int32)) x3 = some h18 ∧
    P none h18))))))))) :
    xm_L K sX9_lays kX9_lays 0 [some (.ref a0), some (.int x1), some (.int x2), some (.int x3)] [] h P :=
  xm_run (fun _ _ h => h) oX9_lays 11 0 0 0 [some (.ref a0), some (.int x1), some (.int x2), some (.int x3)] [] h H
set_option maxRecDepth 100000 in
theorem eX9_lays {K K' : Nat} (hK : K < K') {h : xm_H} {P : Option Value → xm_H → Prop} {a0 : Nat} {x1 : Int32} {x2 : Int32} {x3 : Int32} (hr : ∃ fs, h[a0]? = some (.inr (9, fs))) (H :
    (if x1 = 0 then
      ∃ q1, xm_fld h a0 9 2 = some (.ref q1) ∧ /- wishOf -/
      ∃ h2, xm_sto h 0 q1 x2 x3 = some h2 ∧
      P none h2
    else
    (if x1 = 1 then
      ∃ q3, xm_fld h a0 9 3 = some (.ref q3) ∧ /- purseOf -/
      ∃ h4, xm_sto h 0 q3 x2 x3 = some h4 ∧
      P none h4
    else
    (if x1 = 2 then
      ∃ q5, xm_fld h a0 9 4 = some (.ref q5) ∧ /- ageOf -/
      ∃ h6, xm_sto h 0 q5 x2 x3 = some h6 ∧
      P none h6
    else
    (if x1 = 3 then
      ∃ q7, xm_fld h a0 9 5 = some (.ref q7) ∧ /- habitOf -/
      ∃ h8, xm_sto h 0 q7 x2 x3 = some h8 ∧
      P none h8
    else
    (if x1 = 4 then
      ∃ q9, xm_fld h a0 9 6 = some (.ref q9) ∧ /- kindOf -/
      ∃ h10, xm_sto h 0 q9 x2 x3 = some h10 ∧
      P none h10
    else
    (if x1 = 5 then
      ∃ q11, xm_fld h a0 9 7 = some (.ref q11) ∧ /- heardOf -/
      ∃ h12, xm_sto h 0 q11 x2 x3 = some h12 ∧
      P none h12
    else
    (if x1 = 6 then
      ∃ q13, xm_fld h a0 9 8 = some (.ref q13) ∧ /- earnsOf -/
      ∃ h14, xm_sto h 0 q13 x2 x3 = some h14 ∧
      P none h14
    else
    (if x1 = 7 then
      ∃ q15, xm_fld h a0 9 9 = some (.ref q15) ∧ /- snows -/
      ∃ h16, xm_sto h 0 q15 x2 x3 = some h16 ∧
      P none h16
    else
    ∃ q17, xm_fld h a0 9 10 = some (.ref q17) ∧ /- pass -/
    ∃ h18, xm_sto h 0 q17 (x1 - (8 : Int32)) x3 = some h18 ∧
    P none h18))))))))) :
    xm_Call K' sX9_lays 9 [.ref a0, .int x1, .int x2, .int x3] h P :=
  xm_call_of (C := kX9_lays) hK (by decide +kernel) rfl (Nat.le_of_ble_eq_true rfl) (Or.inr ⟨a0, hr.choose, rfl, hr.choose_spec⟩) (xX9_lays_0 H)

def kX9_changes : List xm_I := [
  i_0 0 (.aload_n 0) 1 none,
  i_0 1 (.iload_n 1) 1 none,
  i_0 2 (.iload_n 2) 1 none,
  i_m 3 (.invokevirtual 142) 3 none 2 9 [1152, 1154, 39, 117, 1155] 0 sX9_valueAt,
  i_0 6 (.istore 4) 2 none,
  i_0 8 (.iload 4) 2 none,
  i_0 10 (.iload_n 3) 1 none,
  i_j 11 (.if_icmp .ne 6) 3 none 10,
  i_0 14 (.iload 4) 2 none,
  i_0 16 (.ireturn) 1 none,
  i_0 17 (.aload_n 0) 1 none,
  i_v 18 (.iconst 0) 1 none 0 [],
  i_f 19 (.putfield 146) 3 none 9 12 [937] 0,
  i_0 22 (.aload_n 0) 1 none,
  i_f 23 (.getfield 149) 3 none 9 11 [936] 0,
  i_v 26 (.bipush 40) 2 none 40 [],
  i_j 28 (.if_icmp .ne 93) 3 none 70,
  i_v 31 (.iconst 1) 1 none 1 [],
  i_0 32 (.istore 5) 2 none,
  i_0 34 (.iload 5) 2 (some [true, true, true, true, true, true]),
  i_v 36 (.bipush 40) 2 none 40 [],
  i_j 38 (.if_icmp .ge 73) 3 none 64,
  i_0 41 (.aload_n 0) 1 none,
  i_f 42 (.getfield 37) 3 none 9 13 [938] 1,
  i_0 45 (.iload 5) 2 none,
  i_v 47 (.iconst 1) 1 none 1 [],
  i_0 48 (.isub) 1 none,
  i_0 49 (.aload_n 0) 1 none,
  i_f 50 (.getfield 37) 3 none 9 13 [938] 1,
  i_0 53 (.iload 5) 2 none,
  i_0 55 (.iaload) 1 none,
  i_0 56 (.iastore) 1 none,
  i_0 57 (.aload_n 0) 1 none,
  i_f 58 (.getfield 40) 3 none 9 14 [939] 1,
  i_0 61 (.iload 5) 2 none,
  i_v 63 (.iconst 1) 1 none 1 [],
  i_0 64 (.isub) 1 none,
  i_0 65 (.aload_n 0) 1 none,
  i_f 66 (.getfield 40) 3 none 9 14 [939] 1,
  i_0 69 (.iload 5) 2 none,
  i_0 71 (.iaload) 1 none,
  i_0 72 (.iastore) 1 none,
  i_0 73 (.aload_n 0) 1 none,
  i_f 74 (.getfield 43) 3 none 9 15 [940] 1,
  i_0 77 (.iload 5) 2 none,
  i_v 79 (.iconst 1) 1 none 1 [],
  i_0 80 (.isub) 1 none,
  i_0 81 (.aload_n 0) 1 none,
  i_f 82 (.getfield 43) 3 none 9 15 [940] 1,
  i_0 85 (.iload 5) 2 none,
  i_0 87 (.iaload) 1 none,
  i_0 88 (.iastore) 1 none,
  i_0 89 (.aload_n 0) 1 none,
  i_f 90 (.getfield 46) 3 none 9 16 [941] 1,
  i_0 93 (.iload 5) 2 none,
  i_v 95 (.iconst 1) 1 none 1 [],
  i_0 96 (.isub) 1 none,
  i_0 97 (.aload_n 0) 1 none,
  i_f 98 (.getfield 46) 3 none 9 16 [941] 1,
  i_0 101 (.iload 5) 2 none,
  i_0 103 (.iaload) 1 none,
  i_0 104 (.iastore) 1 none,
  i_v 105 (.iinc 5 1) 3 none 1 [],
  i_j 108 (.goto (-74)) 3 none 19,
  i_0 111 (.aload_n 0) 1 none,
  i_0 112 (.dup) 1 none,
  i_f 113 (.getfield 149) 3 none 9 11 [936] 0,
  i_v 116 (.iconst 1) 1 none 1 [],
  i_0 117 (.isub) 1 none,
  i_f 118 (.putfield 149) 3 none 9 11 [936] 0,
  i_0 121 (.aload_n 0) 1 none,
  i_f 122 (.getfield 37) 3 none 9 13 [938] 1,
  i_0 125 (.aload_n 0) 1 none,
  i_f 126 (.getfield 149) 3 none 9 11 [936] 0,
  i_0 129 (.iload_n 1) 1 none,
  i_0 130 (.iastore) 1 none,
  i_0 131 (.aload_n 0) 1 none,
  i_f 132 (.getfield 40) 3 none 9 14 [939] 1,
  i_0 135 (.aload_n 0) 1 none,
  i_f 136 (.getfield 149) 3 none 9 11 [936] 0,
  i_0 139 (.iload_n 2) 1 none,
  i_0 140 (.iastore) 1 none,
  i_0 141 (.aload_n 0) 1 none,
  i_f 142 (.getfield 43) 3 none 9 15 [940] 1,
  i_0 145 (.aload_n 0) 1 none,
  i_f 146 (.getfield 149) 3 none 9 11 [936] 0,
  i_0 149 (.iload 4) 2 none,
  i_0 151 (.iastore) 1 none,
  i_0 152 (.aload_n 0) 1 none,
  i_f 153 (.getfield 46) 3 none 9 16 [941] 1,
  i_0 156 (.aload_n 0) 1 none,
  i_f 157 (.getfield 149) 3 none 9 11 [936] 0,
  i_0 160 (.iload_n 3) 1 none,
  i_0 161 (.iastore) 1 none,
  i_0 162 (.aload_n 0) 1 none,
  i_0 163 (.dup) 1 none,
  i_f 164 (.getfield 149) 3 none 9 11 [936] 0,
  i_v 167 (.iconst 1) 1 none 1 [],
  i_0 168 (.iadd) 1 none,
  i_f 169 (.putfield 149) 3 none 9 11 [936] 0,
  i_0 172 (.aload_n 0) 1 none,
  i_0 173 (.iload_n 1) 1 none,
  i_0 174 (.iload_n 2) 1 none,
  i_0 175 (.iload_n 3) 1 none,
  i_m 176 (.invokevirtual 152) 3 none 3 9 [1125, 1127, 35, 117, 1128] 0 sX9_lays,
  i_0 179 (.iload 4) 2 none,
  i_0 181 (.ireturn) 1 none]
set_option maxRecDepth 100000 in
theorem oX9_changes : xm_ok sX9_changes sX9_changes.1.cls kX9_changes = true := by decide +kernel
set_option maxRecDepth 100000 in
set_option maxHeartbeats 4000000 in
theorem xX9_changes_0 {K : Nat} {h : xm_H} {P : Option Value → xm_H → Prop} {a0 : Nat} {x1 : Int32} {x2 : Int32} {x3 : Int32} (H :
    xm_Call K sX9_valueAt 9 [.ref a0, .int x1, .int x2] h (xm_pi fun c2 h1 =>
      (if c2 = x3 then
        P (some (.int c2)) h1
      else
        ∃ h3, xm_put h1 a0 9 12 (.int (0 : Int32)) = some h3 ∧ /- undoneMany -/
        ∃ f4, xm_fld h3 a0 9 11 = some (.int f4) ∧ /- doneMany -/
        (if f4 = (40 : Int32) then
          xm_L K sX9_changes kX9_changes 19 [some (.ref a0), some (.int x1), some (.int x2), some (.int x3), some (.int c2), some (.int (1 : Int32))] [] h3 P
        else
          ∃ q5, xm_fld h3 a0 9 13 = some (.ref q5) ∧ /- changeOf -/
          ∃ f6, xm_fld h3 a0 9 11 = some (.int f6) ∧ /- doneMany -/
          ∃ h7, xm_sto h3 0 q5 f6 x1 = some h7 ∧
          ∃ q8, xm_fld h7 a0 9 14 = some (.ref q8) ∧ /- changeAt -/
          ∃ f9, xm_fld h7 a0 9 11 = some (.int f9) ∧ /- doneMany -/
          ∃ h10, xm_sto h7 0 q8 f9 x2 = some h10 ∧
          ∃ q11, xm_fld h10 a0 9 15 = some (.ref q11) ∧ /- before -/
          ∃ f12, xm_fld h10 a0 9 11 = some (.int f12) ∧ /- doneMany -/
          ∃ h13, xm_sto h10 0 q11 f12 c2 = some h13 ∧
          ∃ q14, xm_fld h13 a0 9 16 = some (.ref q14) ∧ /- behind -/
          ∃ f15, xm_fld h13 a0 9 11 = some (.int f15) ∧ /- doneMany -/
          ∃ h16, xm_sto h13 0 q14 f15 x3 = some h16 ∧
          ∃ f17, xm_fld h16 a0 9 11 = some (.int f17) ∧ /- doneMany -/
          ∃ h18, xm_put h16 a0 9 11 (.int (f17 + (1 : Int32))) = some h18 ∧ /- doneMany -/
          xm_Call K sX9_lays 9 [.ref a0, .int x1, .int x2, .int x3] h18 (xm_pv fun h19 =>
            P (some (.int c2)) h19))))) :
    xm_L K sX9_changes kX9_changes 0 [some (.ref a0), some (.int x1), some (.int x2), some (.int x3), none, none] [] h P :=
  xm_run (fun _ _ h => h) oX9_changes 53 0 0 0 [some (.ref a0), some (.int x1), some (.int x2), some (.int x3), none, none] [] h H
set_option maxRecDepth 100000 in
theorem eX9_changes {K K' : Nat} (hK : K < K') {h : xm_H} {P : Option Value → xm_H → Prop} {a0 : Nat} {x1 : Int32} {x2 : Int32} {x3 : Int32} (hr : ∃ fs, h[a0]? = some (.inr (9, fs))) (H :
    xm_Call K sX9_valueAt 9 [.ref a0, .int x1, .int x2] h (xm_pi fun c2 h1 =>
      (if c2 = x3 then
        P (some (.int c2)) h1
      else
        ∃ h3, xm_put h1 a0 9 12 (.int (0 : Int32)) = some h3 ∧ /- undoneMany -/
        ∃ f4, xm_fld h3 a0 9 11 = some (.int f4) ∧ /- doneMany -/
        (if f4 = (40 : Int32) then
          xm_L K sX9_changes kX9_changes 19 [some (.ref a0), some (.int x1), some (.int x2), some (.int x3), some (.int c2), some (.int (1 : Int32))] [] h3 P
        else
          ∃ q5, xm_fld h3 a0 9 13 = some (.ref q5) ∧ /- changeOf -/
          ∃ f6, xm_fld h3 a0 9 11 = some (.int f6) ∧ /- doneMany -/
          ∃ h7, xm_sto h3 0 q5 f6 x1 = some h7 ∧
          ∃ q8, xm_fld h7 a0 9 14 = some (.ref q8) ∧ /- changeAt -/
          ∃ f9, xm_fld h7 a0 9 11 = some (.int f9) ∧ /- doneMany -/
          ∃ h10, xm_sto h7 0 q8 f9 x2 = some h10 ∧
          ∃ q11, xm_fld h10 a0 9 15 = some (.ref q11) ∧ /- before -/
          ∃ f12, xm_fld h10 a0 9 11 = some (.int f12) ∧ /- doneMany -/
          ∃ h13, xm_sto h10 0 q11 f12 c2 = some h13 ∧
          ∃ q14, xm_fld h13 a0 9 16 = some (.ref q14) ∧ /- behind -/
          ∃ f15, xm_fld h13 a0 9 11 = some (.int f15) ∧ /- doneMany -/
          ∃ h16, xm_sto h13 0 q14 f15 x3 = some h16 ∧
          ∃ f17, xm_fld h16 a0 9 11 = some (.int f17) ∧ /- doneMany -/
          ∃ h18, xm_put h16 a0 9 11 (.int (f17 + (1 : Int32))) = some h18 ∧ /- doneMany -/
          xm_Call K sX9_lays 9 [.ref a0, .int x1, .int x2, .int x3] h18 (xm_pv fun h19 =>
            P (some (.int c2)) h19))))) :
    xm_Call K' sX9_changes 9 [.ref a0, .int x1, .int x2, .int x3] h P :=
  xm_call_of (C := kX9_changes) hK (by decide +kernel) rfl (Nat.le_of_ble_eq_true rfl) (Or.inr ⟨a0, hr.choose, rfl, hr.choose_spec⟩) (xX9_changes_0 H)

set_option maxRecDepth 100000 in
set_option maxHeartbeats 4000000 in
theorem xX9_changes_19 {K : Nat} {h : xm_H} {P : Option Value → xm_H → Prop} {a0 : Nat} {x1 : Int32} {x2 : Int32} {x3 : Int32} {x4 : Int32} {x5 : Int32} (H :
    (if x5 < (40 : Int32) then
      ∃ q1, xm_fld h a0 9 13 = some (.ref q1) ∧ /- changeOf -/
      ∃ q2, xm_fld h a0 9 13 = some (.ref q2) ∧ /- changeOf -/
      ∃ e3, xm_ld xm_st h 0 q2 x5 = some e3 ∧
      ∃ h4, xm_sto h 0 q1 (x5 - (1 : Int32)) e3 = some h4 ∧
      ∃ q5, xm_fld h4 a0 9 14 = some (.ref q5) ∧ /- changeAt -/
      ∃ q6, xm_fld h4 a0 9 14 = some (.ref q6) ∧ /- changeAt -/
      ∃ e7, xm_ld xm_st h4 0 q6 x5 = some e7 ∧
      ∃ h8, xm_sto h4 0 q5 (x5 - (1 : Int32)) e7 = some h8 ∧
      ∃ q9, xm_fld h8 a0 9 15 = some (.ref q9) ∧ /- before -/
      ∃ q10, xm_fld h8 a0 9 15 = some (.ref q10) ∧ /- before -/
      ∃ e11, xm_ld xm_st h8 0 q10 x5 = some e11 ∧
      ∃ h12, xm_sto h8 0 q9 (x5 - (1 : Int32)) e11 = some h12 ∧
      ∃ q13, xm_fld h12 a0 9 16 = some (.ref q13) ∧ /- behind -/
      ∃ q14, xm_fld h12 a0 9 16 = some (.ref q14) ∧ /- behind -/
      ∃ e15, xm_ld xm_st h12 0 q14 x5 = some e15 ∧
      ∃ h16, xm_sto h12 0 q13 (x5 - (1 : Int32)) e15 = some h16 ∧
      xm_L K sX9_changes kX9_changes 19 [some (.ref a0), some (.int x1), some (.int x2), some (.int x3), some (.int x4), some (.int (x5 + (1 : Int32)))] [] h16 P
    else
      ∃ f17, xm_fld h a0 9 11 = some (.int f17) ∧ /- doneMany -/
      ∃ h18, xm_put h a0 9 11 (.int (f17 - (1 : Int32))) = some h18 ∧ /- doneMany -/
      ∃ q19, xm_fld h18 a0 9 13 = some (.ref q19) ∧ /- changeOf -/
      ∃ f20, xm_fld h18 a0 9 11 = some (.int f20) ∧ /- doneMany -/
      ∃ h21, xm_sto h18 0 q19 f20 x1 = some h21 ∧
      ∃ q22, xm_fld h21 a0 9 14 = some (.ref q22) ∧ /- changeAt -/
      ∃ f23, xm_fld h21 a0 9 11 = some (.int f23) ∧ /- doneMany -/
      ∃ h24, xm_sto h21 0 q22 f23 x2 = some h24 ∧
      ∃ q25, xm_fld h24 a0 9 15 = some (.ref q25) ∧ /- before -/
      ∃ f26, xm_fld h24 a0 9 11 = some (.int f26) ∧ /- doneMany -/
      ∃ h27, xm_sto h24 0 q25 f26 x4 = some h27 ∧
      ∃ q28, xm_fld h27 a0 9 16 = some (.ref q28) ∧ /- behind -/
      ∃ f29, xm_fld h27 a0 9 11 = some (.int f29) ∧ /- doneMany -/
      ∃ h30, xm_sto h27 0 q28 f29 x3 = some h30 ∧
      ∃ f31, xm_fld h30 a0 9 11 = some (.int f31) ∧ /- doneMany -/
      ∃ h32, xm_put h30 a0 9 11 (.int (f31 + (1 : Int32))) = some h32 ∧ /- doneMany -/
      xm_Call K sX9_lays 9 [.ref a0, .int x1, .int x2, .int x3] h32 (xm_pv fun h33 =>
        P (some (.int x4)) h33))) :
    xm_L K sX9_changes kX9_changes 19 [some (.ref a0), some (.int x1), some (.int x2), some (.int x3), some (.int x4), some (.int x5)] [] h P :=
  xm_run (fun _ _ h => h) oX9_changes 47 19 0 0 [some (.ref a0), some (.int x1), some (.int x2), some (.int x3), some (.int x4), some (.int x5)] [] h H

def kX9_undo : List xm_I := [
  i_0 0 (.aload_n 0) 1 none,
  i_f 1 (.getfield 149) 3 none 9 11 [936] 0,
  i_j 4 (.ifCond .ne 6) 3 none 5,
  i_v 7 (.bipush (-5)) 2 none (-5) [],
  i_0 9 (.ireturn) 1 none,
  i_0 10 (.aload_n 0) 1 none,
  i_0 11 (.dup) 1 none,
  i_f 12 (.getfield 149) 3 none 9 11 [936] 0,
  i_v 15 (.iconst 1) 1 none 1 [],
  i_0 16 (.isub) 1 none,
  i_f 17 (.putfield 149) 3 none 9 11 [936] 0,
  i_0 20 (.aload_n 0) 1 none,
  i_0 21 (.dup) 1 none,
  i_f 22 (.getfield 146) 3 none 9 12 [937] 0,
  i_v 25 (.iconst 1) 1 none 1 [],
  i_0 26 (.iadd) 1 none,
  i_f 27 (.putfield 146) 3 none 9 12 [937] 0,
  i_0 30 (.aload_n 0) 1 none,
  i_0 31 (.aload_n 0) 1 none,
  i_f 32 (.getfield 37) 3 none 9 13 [938] 1,
  i_0 35 (.aload_n 0) 1 none,
  i_f 36 (.getfield 149) 3 none 9 11 [936] 0,
  i_0 39 (.iaload) 1 none,
  i_0 40 (.aload_n 0) 1 none,
  i_f 41 (.getfield 40) 3 none 9 14 [939] 1,
  i_0 44 (.aload_n 0) 1 none,
  i_f 45 (.getfield 149) 3 none 9 11 [936] 0,
  i_0 48 (.iaload) 1 none,
  i_0 49 (.aload_n 0) 1 none,
  i_f 50 (.getfield 43) 3 none 9 15 [940] 1,
  i_0 53 (.aload_n 0) 1 none,
  i_f 54 (.getfield 149) 3 none 9 11 [936] 0,
  i_0 57 (.iaload) 1 none,
  i_m 58 (.invokevirtual 152) 3 none 3 9 [1125, 1127, 35, 117, 1128] 0 sX9_lays,
  i_0 61 (.aload_n 0) 1 none,
  i_f 62 (.getfield 149) 3 none 9 11 [936] 0,
  i_0 65 (.ireturn) 1 none]
set_option maxRecDepth 100000 in
theorem oX9_undo : xm_ok sX9_undo sX9_undo.1.cls kX9_undo = true := by decide +kernel
set_option maxRecDepth 100000 in
set_option maxHeartbeats 4000000 in
theorem xX9_undo_0 {K : Nat} {h : xm_H} {P : Option Value → xm_H → Prop} {a0 : Nat} (H :
    ∃ f1, xm_fld h a0 9 11 = some (.int f1) ∧ /- doneMany -/
    (if f1 = 0 then
      P (some (.int (-5 : Int32))) h
    else
      ∃ f2, xm_fld h a0 9 11 = some (.int f2) ∧ /- doneMany -/
      ∃ h3, xm_put h a0 9 11 (.int (f2 - (1 : Int32))) = some h3 ∧ /- doneMany -/
      ∃ f4, xm_fld h3 a0 9 12 = some (.int f4) ∧ /- undoneMany -/
      ∃ h5, xm_put h3 a0 9 12 (.int (f4 + (1 : Int32))) = some h5 ∧ /- undoneMany -/
      ∃ q6, xm_fld h5 a0 9 13 = some (.ref q6) ∧ /- changeOf -/
      ∃ f7, xm_fld h5 a0 9 11 = some (.int f7) ∧ /- doneMany -/
      ∃ e8, xm_ld xm_st h5 0 q6 f7 = some e8 ∧
      ∃ q9, xm_fld h5 a0 9 14 = some (.ref q9) ∧ /- changeAt -/
      ∃ f10, xm_fld h5 a0 9 11 = some (.int f10) ∧ /- doneMany -/
      ∃ e11, xm_ld xm_st h5 0 q9 f10 = some e11 ∧
      ∃ q12, xm_fld h5 a0 9 15 = some (.ref q12) ∧ /- before -/
      ∃ f13, xm_fld h5 a0 9 11 = some (.int f13) ∧ /- doneMany -/
      ∃ e14, xm_ld xm_st h5 0 q12 f13 = some e14 ∧
      xm_Call K sX9_lays 9 [.ref a0, .int e8, .int e11, .int e14] h5 (xm_pv fun h15 =>
        ∃ f16, xm_fld h15 a0 9 11 = some (.int f16) ∧ /- doneMany -/
        P (some (.int f16)) h15))) :
    xm_L K sX9_undo kX9_undo 0 [some (.ref a0)] [] h P :=
  xm_run (fun _ _ h => h) oX9_undo 36 0 0 0 [some (.ref a0)] [] h H
set_option maxRecDepth 100000 in
theorem eX9_undo {K K' : Nat} (hK : K < K') {h : xm_H} {P : Option Value → xm_H → Prop} {a0 : Nat} (hr : ∃ fs, h[a0]? = some (.inr (9, fs))) (H :
    ∃ f1, xm_fld h a0 9 11 = some (.int f1) ∧ /- doneMany -/
    (if f1 = 0 then
      P (some (.int (-5 : Int32))) h
    else
      ∃ f2, xm_fld h a0 9 11 = some (.int f2) ∧ /- doneMany -/
      ∃ h3, xm_put h a0 9 11 (.int (f2 - (1 : Int32))) = some h3 ∧ /- doneMany -/
      ∃ f4, xm_fld h3 a0 9 12 = some (.int f4) ∧ /- undoneMany -/
      ∃ h5, xm_put h3 a0 9 12 (.int (f4 + (1 : Int32))) = some h5 ∧ /- undoneMany -/
      ∃ q6, xm_fld h5 a0 9 13 = some (.ref q6) ∧ /- changeOf -/
      ∃ f7, xm_fld h5 a0 9 11 = some (.int f7) ∧ /- doneMany -/
      ∃ e8, xm_ld xm_st h5 0 q6 f7 = some e8 ∧
      ∃ q9, xm_fld h5 a0 9 14 = some (.ref q9) ∧ /- changeAt -/
      ∃ f10, xm_fld h5 a0 9 11 = some (.int f10) ∧ /- doneMany -/
      ∃ e11, xm_ld xm_st h5 0 q9 f10 = some e11 ∧
      ∃ q12, xm_fld h5 a0 9 15 = some (.ref q12) ∧ /- before -/
      ∃ f13, xm_fld h5 a0 9 11 = some (.int f13) ∧ /- doneMany -/
      ∃ e14, xm_ld xm_st h5 0 q12 f13 = some e14 ∧
      xm_Call K sX9_lays 9 [.ref a0, .int e8, .int e11, .int e14] h5 (xm_pv fun h15 =>
        ∃ f16, xm_fld h15 a0 9 11 = some (.int f16) ∧ /- doneMany -/
        P (some (.int f16)) h15))) :
    xm_Call K' sX9_undo 9 [.ref a0] h P :=
  xm_call_of (C := kX9_undo) hK (by decide +kernel) rfl (Nat.le_of_ble_eq_true rfl) (Or.inr ⟨a0, hr.choose, rfl, hr.choose_spec⟩) (xX9_undo_0 H)

def kX9_redo : List xm_I := [
  i_0 0 (.aload_n 0) 1 none,
  i_f 1 (.getfield 146) 3 none 9 12 [937] 0,
  i_j 4 (.ifCond .ne 6) 3 none 5,
  i_v 7 (.bipush (-5)) 2 none (-5) [],
  i_0 9 (.ireturn) 1 none,
  i_0 10 (.aload_n 0) 1 none,
  i_0 11 (.aload_n 0) 1 none,
  i_f 12 (.getfield 37) 3 none 9 13 [938] 1,
  i_0 15 (.aload_n 0) 1 none,
  i_f 16 (.getfield 149) 3 none 9 11 [936] 0,
  i_0 19 (.iaload) 1 none,
  i_0 20 (.aload_n 0) 1 none,
  i_f 21 (.getfield 40) 3 none 9 14 [939] 1,
  i_0 24 (.aload_n 0) 1 none,
  i_f 25 (.getfield 149) 3 none 9 11 [936] 0,
  i_0 28 (.iaload) 1 none,
  i_0 29 (.aload_n 0) 1 none,
  i_f 30 (.getfield 46) 3 none 9 16 [941] 1,
  i_0 33 (.aload_n 0) 1 none,
  i_f 34 (.getfield 149) 3 none 9 11 [936] 0,
  i_0 37 (.iaload) 1 none,
  i_m 38 (.invokevirtual 152) 3 none 3 9 [1125, 1127, 35, 117, 1128] 0 sX9_lays,
  i_0 41 (.aload_n 0) 1 none,
  i_0 42 (.dup) 1 none,
  i_f 43 (.getfield 149) 3 none 9 11 [936] 0,
  i_v 46 (.iconst 1) 1 none 1 [],
  i_0 47 (.iadd) 1 none,
  i_f 48 (.putfield 149) 3 none 9 11 [936] 0,
  i_0 51 (.aload_n 0) 1 none,
  i_0 52 (.dup) 1 none,
  i_f 53 (.getfield 146) 3 none 9 12 [937] 0,
  i_v 56 (.iconst 1) 1 none 1 [],
  i_0 57 (.isub) 1 none,
  i_f 58 (.putfield 146) 3 none 9 12 [937] 0,
  i_0 61 (.aload_n 0) 1 none,
  i_f 62 (.getfield 146) 3 none 9 12 [937] 0,
  i_0 65 (.ireturn) 1 none]
set_option maxRecDepth 100000 in
theorem oX9_redo : xm_ok sX9_redo sX9_redo.1.cls kX9_redo = true := by decide +kernel
set_option maxRecDepth 100000 in
set_option maxHeartbeats 4000000 in
theorem xX9_redo_0 {K : Nat} {h : xm_H} {P : Option Value → xm_H → Prop} {a0 : Nat} (H :
    ∃ f1, xm_fld h a0 9 12 = some (.int f1) ∧ /- undoneMany -/
    (if f1 = 0 then
      P (some (.int (-5 : Int32))) h
    else
      ∃ q2, xm_fld h a0 9 13 = some (.ref q2) ∧ /- changeOf -/
      ∃ f3, xm_fld h a0 9 11 = some (.int f3) ∧ /- doneMany -/
      ∃ e4, xm_ld xm_st h 0 q2 f3 = some e4 ∧
      ∃ q5, xm_fld h a0 9 14 = some (.ref q5) ∧ /- changeAt -/
      ∃ f6, xm_fld h a0 9 11 = some (.int f6) ∧ /- doneMany -/
      ∃ e7, xm_ld xm_st h 0 q5 f6 = some e7 ∧
      ∃ q8, xm_fld h a0 9 16 = some (.ref q8) ∧ /- behind -/
      ∃ f9, xm_fld h a0 9 11 = some (.int f9) ∧ /- doneMany -/
      ∃ e10, xm_ld xm_st h 0 q8 f9 = some e10 ∧
      xm_Call K sX9_lays 9 [.ref a0, .int e4, .int e7, .int e10] h (xm_pv fun h11 =>
        ∃ f12, xm_fld h11 a0 9 11 = some (.int f12) ∧ /- doneMany -/
        ∃ h13, xm_put h11 a0 9 11 (.int (f12 + (1 : Int32))) = some h13 ∧ /- doneMany -/
        ∃ f14, xm_fld h13 a0 9 12 = some (.int f14) ∧ /- undoneMany -/
        ∃ h15, xm_put h13 a0 9 12 (.int (f14 - (1 : Int32))) = some h15 ∧ /- undoneMany -/
        ∃ f16, xm_fld h15 a0 9 12 = some (.int f16) ∧ /- undoneMany -/
        P (some (.int f16)) h15))) :
    xm_L K sX9_redo kX9_redo 0 [some (.ref a0)] [] h P :=
  xm_run (fun _ _ h => h) oX9_redo 36 0 0 0 [some (.ref a0)] [] h H
set_option maxRecDepth 100000 in
theorem eX9_redo {K K' : Nat} (hK : K < K') {h : xm_H} {P : Option Value → xm_H → Prop} {a0 : Nat} (hr : ∃ fs, h[a0]? = some (.inr (9, fs))) (H :
    ∃ f1, xm_fld h a0 9 12 = some (.int f1) ∧ /- undoneMany -/
    (if f1 = 0 then
      P (some (.int (-5 : Int32))) h
    else
      ∃ q2, xm_fld h a0 9 13 = some (.ref q2) ∧ /- changeOf -/
      ∃ f3, xm_fld h a0 9 11 = some (.int f3) ∧ /- doneMany -/
      ∃ e4, xm_ld xm_st h 0 q2 f3 = some e4 ∧
      ∃ q5, xm_fld h a0 9 14 = some (.ref q5) ∧ /- changeAt -/
      ∃ f6, xm_fld h a0 9 11 = some (.int f6) ∧ /- doneMany -/
      ∃ e7, xm_ld xm_st h 0 q5 f6 = some e7 ∧
      ∃ q8, xm_fld h a0 9 16 = some (.ref q8) ∧ /- behind -/
      ∃ f9, xm_fld h a0 9 11 = some (.int f9) ∧ /- doneMany -/
      ∃ e10, xm_ld xm_st h 0 q8 f9 = some e10 ∧
      xm_Call K sX9_lays 9 [.ref a0, .int e4, .int e7, .int e10] h (xm_pv fun h11 =>
        ∃ f12, xm_fld h11 a0 9 11 = some (.int f12) ∧ /- doneMany -/
        ∃ h13, xm_put h11 a0 9 11 (.int (f12 + (1 : Int32))) = some h13 ∧ /- doneMany -/
        ∃ f14, xm_fld h13 a0 9 12 = some (.int f14) ∧ /- undoneMany -/
        ∃ h15, xm_put h13 a0 9 12 (.int (f14 - (1 : Int32))) = some h15 ∧ /- undoneMany -/
        ∃ f16, xm_fld h15 a0 9 12 = some (.int f16) ∧ /- undoneMany -/
        P (some (.int f16)) h15))) :
    xm_Call K' sX9_redo 9 [.ref a0] h P :=
  xm_call_of (C := kX9_redo) hK (by decide +kernel) rfl (Nat.le_of_ble_eq_true rfl) (Or.inr ⟨a0, hr.choose, rfl, hr.choose_spec⟩) (xX9_redo_0 H)

def kX9_isPlace : List xm_I := [
  i_0 0 (.iload_n 2) 1 none,
  i_v 1 (.iconst 0) 1 none 0 [],
  i_v 2 (.bipush 6) 2 none 6 [],
  i_m 4 (.invokestatic 128) 3 none 3 99 [1106, 1107, 117, 1108] 0 sX9_in,
  i_j 7 (.ifCond .eq 11) 3 none 9,
  i_0 10 (.aload_n 0) 1 none,
  i_0 11 (.iload_n 1) 1 none,
  i_m 12 (.invokevirtual 156) 3 none 1 9 [1141, 1143, 37, 117, 1144] 0 sX9_isOne,
  i_j 15 (.goto 39) 3 none 27,
  i_0 18 (.iload_n 2) 1 none,
  i_v 19 (.bipush 7) 2 none 7 [],
  i_j 21 (.if_icmp .ne 13) 3 none 17,
  i_0 24 (.iload_n 1) 1 none,
  i_v 25 (.iconst 0) 1 none 0 [],
  i_v 26 (.bipush 7) 2 none 7 [],
  i_m 28 (.invokestatic 128) 3 none 3 99 [1106, 1107, 117, 1108] 0 sX9_in,
  i_j 31 (.goto 23) 3 none 27,
  i_0 34 (.iload_n 2) 1 none,
  i_v 35 (.bipush 8) 2 none 8 [],
  i_v 37 (.bipush 10) 2 none 10 [],
  i_m 39 (.invokestatic 128) 3 none 3 99 [1106, 1107, 117, 1108] 0 sX9_in,
  i_j 42 (.ifCond .eq 11) 3 none 26,
  i_0 45 (.iload_n 1) 1 none,
  i_j 46 (.ifCond .ne 7) 3 none 26,
  i_v 49 (.iconst 1) 1 none 1 [],
  i_j 50 (.goto 4) 3 none 27,
  i_v 53 (.iconst 0) 1 none 0 [],
  i_0 54 (.ireturn) 1 none]
set_option maxRecDepth 100000 in
theorem oX9_isPlace : xm_ok sX9_isPlace sX9_isPlace.1.cls kX9_isPlace = true := by decide +kernel
set_option maxRecDepth 100000 in
set_option maxHeartbeats 4000000 in
theorem xX9_isPlace_0 {K : Nat} {h : xm_H} {P : Option Value → xm_H → Prop} {a0 : Nat} {x1 : Int32} {x2 : Int32} (H :
    xm_Call K sX9_in 99 [.int x2, .int (0 : Int32), .int (6 : Int32)] h (xm_pi fun c2 h1 =>
      (if c2 = 0 then
        (if x2 = (7 : Int32) then
          xm_Call K sX9_in 99 [.int x1, .int (0 : Int32), .int (7 : Int32)] h1 (xm_pi fun c4 h3 =>
            (if c4 = 0 ∨ c4 = 1 then P (some (.int c4)) h3 else False))
        else
          xm_Call K sX9_in 99 [.int x2, .int (8 : Int32), .int (10 : Int32)] h1 (xm_pi fun c6 h5 =>
            (if c6 = 0 then
              P (some (.int (0 : Int32))) h5
            else
              (if x1 = 0 then
                P (some (.int (1 : Int32))) h5
              else
                P (some (.int (0 : Int32))) h5))))
      else
        xm_Call K sX9_isOne 9 [.ref a0, .int x1] h1 (xm_pi fun c8 h7 =>
          (if c8 = 0 ∨ c8 = 1 then P (some (.int c8)) h7 else False))))) :
    xm_L K sX9_isPlace kX9_isPlace 0 [some (.ref a0), some (.int x1), some (.int x2)] [] h P :=
  xm_run (fun _ _ h => h) oX9_isPlace 19 0 0 0 [some (.ref a0), some (.int x1), some (.int x2)] [] h H
set_option maxRecDepth 100000 in
theorem eX9_isPlace {K K' : Nat} (hK : K < K') {h : xm_H} {P : Option Value → xm_H → Prop} {a0 : Nat} {x1 : Int32} {x2 : Int32} (hr : ∃ fs, h[a0]? = some (.inr (9, fs))) (H :
    xm_Call K sX9_in 99 [.int x2, .int (0 : Int32), .int (6 : Int32)] h (xm_pi fun c2 h1 =>
      (if c2 = 0 then
        (if x2 = (7 : Int32) then
          xm_Call K sX9_in 99 [.int x1, .int (0 : Int32), .int (7 : Int32)] h1 (xm_pi fun c4 h3 =>
            (if c4 = 0 ∨ c4 = 1 then P (some (.int c4)) h3 else False))
        else
          xm_Call K sX9_in 99 [.int x2, .int (8 : Int32), .int (10 : Int32)] h1 (xm_pi fun c6 h5 =>
            (if c6 = 0 then
              P (some (.int (0 : Int32))) h5
            else
              (if x1 = 0 then
                P (some (.int (1 : Int32))) h5
              else
                P (some (.int (0 : Int32))) h5))))
      else
        xm_Call K sX9_isOne 9 [.ref a0, .int x1] h1 (xm_pi fun c8 h7 =>
          (if c8 = 0 ∨ c8 = 1 then P (some (.int c8)) h7 else False))))) :
    xm_Call K' sX9_isPlace 9 [.ref a0, .int x1, .int x2] h P :=
  xm_call_of (C := kX9_isPlace) hK (by decide +kernel) rfl (Nat.le_of_ble_eq_true rfl) (Or.inr ⟨a0, hr.choose, rfl, hr.choose_spec⟩) (xX9_isPlace_0 H)

def kX9_mayHave : List xm_I := [
  i_0 0 (.iload_n 0) 1 none,
  i_s 1 (.tableswitch 110 0 9 #[55, 63, 110, 72, 79, 86, 110, 110, 93, 102]) 55 none 37 [(0, 2), (1, 7), (2, 37), (3, 12), (4, 17), (5, 22), (6, 37), (7, 37), (8, 27), (9, 32)],
  i_0 56 (.iload_n 1) 1 none,
  i_v 57 (.iconst 0) 1 none 0 [],
  i_v 58 (.bipush 9) 2 none 9 [],
  i_m 60 (.invokestatic 128) 3 none 3 99 [1106, 1107, 117, 1108] 0 sX9_in,
  i_0 63 (.ireturn) 1 none,
  i_0 64 (.iload_n 1) 1 none,
  i_v 65 (.iconst 0) 1 none 0 [],
  i_v 66 (.sipush 9999) 3 none 9999 [],
  i_m 69 (.invokestatic 128) 3 none 3 99 [1106, 1107, 117, 1108] 0 sX9_in,
  i_0 72 (.ireturn) 1 none,
  i_0 73 (.iload_n 1) 1 none,
  i_v 74 (.iconst 0) 1 none 0 [],
  i_v 75 (.iconst 3) 1 none 3 [],
  i_m 76 (.invokestatic 128) 3 none 3 99 [1106, 1107, 117, 1108] 0 sX9_in,
  i_0 79 (.ireturn) 1 none,
  i_0 80 (.iload_n 1) 1 none,
  i_v 81 (.iconst 0) 1 none 0 [],
  i_v 82 (.iconst 4) 1 none 4 [],
  i_m 83 (.invokestatic 128) 3 none 3 99 [1106, 1107, 117, 1108] 0 sX9_in,
  i_0 86 (.ireturn) 1 none,
  i_0 87 (.iload_n 1) 1 none,
  i_v 88 (.iconst 0) 1 none 0 [],
  i_v 89 (.iconst 1) 1 none 1 [],
  i_m 90 (.invokestatic 128) 3 none 3 99 [1106, 1107, 117, 1108] 0 sX9_in,
  i_0 93 (.ireturn) 1 none,
  i_0 94 (.iload_n 1) 1 none,
  i_v 95 (.iconst 0) 1 none 0 [],
  i_v 96 (.sipush 199) 3 none 199 [],
  i_m 99 (.invokestatic 128) 3 none 3 99 [1106, 1107, 117, 1108] 0 sX9_in,
  i_0 102 (.ireturn) 1 none,
  i_0 103 (.iload_n 1) 1 none,
  i_v 104 (.iconst 1) 1 none 1 [],
  i_v 105 (.bipush 99) 2 none 99 [],
  i_m 107 (.invokestatic 128) 3 none 3 99 [1106, 1107, 117, 1108] 0 sX9_in,
  i_0 110 (.ireturn) 1 none,
  i_0 111 (.iload_n 1) 1 none,
  i_v 112 (.iconst 0) 1 none 0 [],
  i_v 113 (.bipush 99) 2 none 99 [],
  i_m 115 (.invokestatic 128) 3 none 3 99 [1106, 1107, 117, 1108] 0 sX9_in,
  i_0 118 (.ireturn) 1 none]
set_option maxRecDepth 100000 in
theorem oX9_mayHave : xm_ok sX9_mayHave sX9_mayHave.1.cls kX9_mayHave = true := by decide +kernel
set_option maxRecDepth 100000 in
set_option maxHeartbeats 4000000 in
theorem xX9_mayHave_0 {K : Nat} {h : xm_H} {P : Option Value → xm_H → Prop} {x0 : Int32} {x1 : Int32} (H :
    (if x0 = 0 then
      xm_Call K sX9_in 99 [.int x1, .int (0 : Int32), .int (9 : Int32)] h (xm_pi fun c2 h1 =>
        (if c2 = 0 ∨ c2 = 1 then P (some (.int c2)) h1 else False))
    else
    (if x0 = 1 then
      xm_Call K sX9_in 99 [.int x1, .int (0 : Int32), .int (9999 : Int32)] h (xm_pi fun c4 h3 =>
        (if c4 = 0 ∨ c4 = 1 then P (some (.int c4)) h3 else False))
    else
    (if x0 = 2 then
      xm_Call K sX9_in 99 [.int x1, .int (0 : Int32), .int (99 : Int32)] h (xm_pi fun c6 h5 =>
        (if c6 = 0 ∨ c6 = 1 then P (some (.int c6)) h5 else False))
    else
    (if x0 = 3 then
      xm_Call K sX9_in 99 [.int x1, .int (0 : Int32), .int (3 : Int32)] h (xm_pi fun c8 h7 =>
        (if c8 = 0 ∨ c8 = 1 then P (some (.int c8)) h7 else False))
    else
    (if x0 = 4 then
      xm_Call K sX9_in 99 [.int x1, .int (0 : Int32), .int (4 : Int32)] h (xm_pi fun c10 h9 =>
        (if c10 = 0 ∨ c10 = 1 then P (some (.int c10)) h9 else False))
    else
    (if x0 = 5 then
      xm_Call K sX9_in 99 [.int x1, .int (0 : Int32), .int (1 : Int32)] h (xm_pi fun c12 h11 =>
        (if c12 = 0 ∨ c12 = 1 then P (some (.int c12)) h11 else False))
    else
    (if x0 = 6 then
      xm_Call K sX9_in 99 [.int x1, .int (0 : Int32), .int (99 : Int32)] h (xm_pi fun c14 h13 =>
        (if c14 = 0 ∨ c14 = 1 then P (some (.int c14)) h13 else False))
    else
    (if x0 = 7 then
      xm_Call K sX9_in 99 [.int x1, .int (0 : Int32), .int (99 : Int32)] h (xm_pi fun c16 h15 =>
        (if c16 = 0 ∨ c16 = 1 then P (some (.int c16)) h15 else False))
    else
    (if x0 = 8 then
      xm_Call K sX9_in 99 [.int x1, .int (0 : Int32), .int (199 : Int32)] h (xm_pi fun c18 h17 =>
        (if c18 = 0 ∨ c18 = 1 then P (some (.int c18)) h17 else False))
    else
    (if x0 = 9 then
      xm_Call K sX9_in 99 [.int x1, .int (1 : Int32), .int (99 : Int32)] h (xm_pi fun c20 h19 =>
        (if c20 = 0 ∨ c20 = 1 then P (some (.int c20)) h19 else False))
    else
    xm_Call K sX9_in 99 [.int x1, .int (0 : Int32), .int (99 : Int32)] h (xm_pi fun c22 h21 =>
      (if c22 = 0 ∨ c22 = 1 then P (some (.int c22)) h21 else False))))))))))))) :
    xm_L K sX9_mayHave kX9_mayHave 0 [some (.int x0), some (.int x1)] [] h P :=
  xm_run (fun _ _ h => h) oX9_mayHave 8 0 0 0 [some (.int x0), some (.int x1)] [] h H
set_option maxRecDepth 100000 in
theorem eX9_mayHave {K K' : Nat} (hK : K < K') {h : xm_H} {P : Option Value → xm_H → Prop} {x0 : Int32} {x1 : Int32} (H :
    (if x0 = 0 then
      xm_Call K sX9_in 99 [.int x1, .int (0 : Int32), .int (9 : Int32)] h (xm_pi fun c2 h1 =>
        (if c2 = 0 ∨ c2 = 1 then P (some (.int c2)) h1 else False))
    else
    (if x0 = 1 then
      xm_Call K sX9_in 99 [.int x1, .int (0 : Int32), .int (9999 : Int32)] h (xm_pi fun c4 h3 =>
        (if c4 = 0 ∨ c4 = 1 then P (some (.int c4)) h3 else False))
    else
    (if x0 = 2 then
      xm_Call K sX9_in 99 [.int x1, .int (0 : Int32), .int (99 : Int32)] h (xm_pi fun c6 h5 =>
        (if c6 = 0 ∨ c6 = 1 then P (some (.int c6)) h5 else False))
    else
    (if x0 = 3 then
      xm_Call K sX9_in 99 [.int x1, .int (0 : Int32), .int (3 : Int32)] h (xm_pi fun c8 h7 =>
        (if c8 = 0 ∨ c8 = 1 then P (some (.int c8)) h7 else False))
    else
    (if x0 = 4 then
      xm_Call K sX9_in 99 [.int x1, .int (0 : Int32), .int (4 : Int32)] h (xm_pi fun c10 h9 =>
        (if c10 = 0 ∨ c10 = 1 then P (some (.int c10)) h9 else False))
    else
    (if x0 = 5 then
      xm_Call K sX9_in 99 [.int x1, .int (0 : Int32), .int (1 : Int32)] h (xm_pi fun c12 h11 =>
        (if c12 = 0 ∨ c12 = 1 then P (some (.int c12)) h11 else False))
    else
    (if x0 = 6 then
      xm_Call K sX9_in 99 [.int x1, .int (0 : Int32), .int (99 : Int32)] h (xm_pi fun c14 h13 =>
        (if c14 = 0 ∨ c14 = 1 then P (some (.int c14)) h13 else False))
    else
    (if x0 = 7 then
      xm_Call K sX9_in 99 [.int x1, .int (0 : Int32), .int (99 : Int32)] h (xm_pi fun c16 h15 =>
        (if c16 = 0 ∨ c16 = 1 then P (some (.int c16)) h15 else False))
    else
    (if x0 = 8 then
      xm_Call K sX9_in 99 [.int x1, .int (0 : Int32), .int (199 : Int32)] h (xm_pi fun c18 h17 =>
        (if c18 = 0 ∨ c18 = 1 then P (some (.int c18)) h17 else False))
    else
    (if x0 = 9 then
      xm_Call K sX9_in 99 [.int x1, .int (1 : Int32), .int (99 : Int32)] h (xm_pi fun c20 h19 =>
        (if c20 = 0 ∨ c20 = 1 then P (some (.int c20)) h19 else False))
    else
    xm_Call K sX9_in 99 [.int x1, .int (0 : Int32), .int (99 : Int32)] h (xm_pi fun c22 h21 =>
      (if c22 = 0 ∨ c22 = 1 then P (some (.int c22)) h21 else False))))))))))))) :
    xm_Call K' sX9_mayHave 99 [.int x0, .int x1] h P :=
  xm_call_of (C := kX9_mayHave) hK (by decide +kernel) rfl (Nat.le_of_ble_eq_true rfl) (Or.inl rfl) (xX9_mayHave_0 H)

def kX9_mend : List xm_I := [
  i_0 0 (.aload_n 0) 1 none,
  i_0 1 (.iload_n 1) 1 none,
  i_0 2 (.iload_n 2) 1 none,
  i_m 3 (.invokevirtual 159) 3 none 2 9 [1137, 1139, 36, 117, 1140] 0 sX9_isPlace,
  i_j 6 (.ifCond .eq 21) 3 none 15,
  i_0 9 (.iload_n 2) 1 none,
  i_0 10 (.iload_n 3) 1 none,
  i_m 11 (.invokestatic 163) 3 none 2 99 [1145, 1146, 117, 1147] 0 sX9_mayHave,
  i_j 14 (.ifCond .eq 13) 3 none 15,
  i_0 17 (.aload_n 0) 1 none,
  i_0 18 (.iload_n 2) 1 none,
  i_0 19 (.iload_n 1) 1 none,
  i_0 20 (.iload_n 3) 1 none,
  i_m 21 (.invokevirtual 166) 3 none 3 9 [1148, 1150, 38, 117, 1151] 0 sX9_changes,
  i_j 24 (.goto 4) 3 none 16,
  i_v 27 (.iconst (-1)) 1 none (-1) [],
  i_0 28 (.ireturn) 1 none]
set_option maxRecDepth 100000 in
theorem oX9_mend : xm_ok sX9_mend sX9_mend.1.cls kX9_mend = true := by decide +kernel
set_option maxRecDepth 100000 in
set_option maxHeartbeats 4000000 in
theorem xX9_mend_0 {K : Nat} {h : xm_H} {P : Option Value → xm_H → Prop} {a0 : Nat} {x1 : Int32} {x2 : Int32} {x3 : Int32} (H :
    xm_Call K sX9_isPlace 9 [.ref a0, .int x1, .int x2] h (xm_pi fun c2 h1 =>
      (if c2 = 0 then
        P (some (.int (-1 : Int32))) h1
      else
        xm_Call K sX9_mayHave 99 [.int x2, .int x3] h1 (xm_pi fun c4 h3 =>
          (if c4 = 0 then
            P (some (.int (-1 : Int32))) h3
          else
            xm_Call K sX9_changes 9 [.ref a0, .int x2, .int x1, .int x3] h3 (xm_pi fun c6 h5 =>
              P (some (.int c6)) h5)))))) :
    xm_L K sX9_mend kX9_mend 0 [some (.ref a0), some (.int x1), some (.int x2), some (.int x3)] [] h P :=
  xm_run (fun _ _ h => h) oX9_mend 17 0 0 0 [some (.ref a0), some (.int x1), some (.int x2), some (.int x3)] [] h H
set_option maxRecDepth 100000 in
theorem eX9_mend {K K' : Nat} (hK : K < K') {h : xm_H} {P : Option Value → xm_H → Prop} {a0 : Nat} {x1 : Int32} {x2 : Int32} {x3 : Int32} (hr : ∃ fs, h[a0]? = some (.inr (9, fs))) (H :
    xm_Call K sX9_isPlace 9 [.ref a0, .int x1, .int x2] h (xm_pi fun c2 h1 =>
      (if c2 = 0 then
        P (some (.int (-1 : Int32))) h1
      else
        xm_Call K sX9_mayHave 99 [.int x2, .int x3] h1 (xm_pi fun c4 h3 =>
          (if c4 = 0 then
            P (some (.int (-1 : Int32))) h3
          else
            xm_Call K sX9_changes 9 [.ref a0, .int x2, .int x1, .int x3] h3 (xm_pi fun c6 h5 =>
              P (some (.int c6)) h5)))))) :
    xm_Call K' sX9_mend 9 [.ref a0, .int x1, .int x2, .int x3] h P :=
  xm_call_of (C := kX9_mend) hK (by decide +kernel) rfl (Nat.le_of_ble_eq_true rfl) (Or.inr ⟨a0, hr.choose, rfl, hr.choose_spec⟩) (xX9_mend_0 H)

def kX9_of : List xm_I := [
  i_0 0 (.aload_n 0) 1 none,
  i_0 1 (.iload_n 1) 1 none,
  i_0 2 (.iload_n 2) 1 none,
  i_m 3 (.invokevirtual 159) 3 none 2 9 [1137, 1139, 36, 117, 1140] 0 sX9_isPlace,
  i_j 6 (.ifCond .eq 12) 3 none 10,
  i_0 9 (.aload_n 0) 1 none,
  i_0 10 (.iload_n 2) 1 none,
  i_0 11 (.iload_n 1) 1 none,
  i_m 12 (.invokevirtual 142) 3 none 2 9 [1152, 1154, 39, 117, 1155] 0 sX9_valueAt,
  i_j 15 (.goto 4) 3 none 11,
  i_v 18 (.iconst (-1)) 1 none (-1) [],
  i_0 19 (.ireturn) 1 none]
set_option maxRecDepth 100000 in
theorem oX9_of : xm_ok sX9_of sX9_of.1.cls kX9_of = true := by decide +kernel
set_option maxRecDepth 100000 in
set_option maxHeartbeats 4000000 in
theorem xX9_of_0 {K : Nat} {h : xm_H} {P : Option Value → xm_H → Prop} {a0 : Nat} {x1 : Int32} {x2 : Int32} (H :
    xm_Call K sX9_isPlace 9 [.ref a0, .int x1, .int x2] h (xm_pi fun c2 h1 =>
      (if c2 = 0 then
        P (some (.int (-1 : Int32))) h1
      else
        xm_Call K sX9_valueAt 9 [.ref a0, .int x2, .int x1] h1 (xm_pi fun c4 h3 =>
          P (some (.int c4)) h3)))) :
    xm_L K sX9_of kX9_of 0 [some (.ref a0), some (.int x1), some (.int x2)] [] h P :=
  xm_run (fun _ _ h => h) oX9_of 12 0 0 0 [some (.ref a0), some (.int x1), some (.int x2)] [] h H
set_option maxRecDepth 100000 in
theorem eX9_of {K K' : Nat} (hK : K < K') {h : xm_H} {P : Option Value → xm_H → Prop} {a0 : Nat} {x1 : Int32} {x2 : Int32} (hr : ∃ fs, h[a0]? = some (.inr (9, fs))) (H :
    xm_Call K sX9_isPlace 9 [.ref a0, .int x1, .int x2] h (xm_pi fun c2 h1 =>
      (if c2 = 0 then
        P (some (.int (-1 : Int32))) h1
      else
        xm_Call K sX9_valueAt 9 [.ref a0, .int x2, .int x1] h1 (xm_pi fun c4 h3 =>
          P (some (.int c4)) h3)))) :
    xm_Call K' sX9_of 9 [.ref a0, .int x1, .int x2] h P :=
  xm_call_of (C := kX9_of) hK (by decide +kernel) rfl (Nat.le_of_ble_eq_true rfl) (Or.inr ⟨a0, hr.choose, rfl, hr.choose_spec⟩) (xX9_of_0 H)

def kX9_feed : List xm_I := [
  i_0 0 (.iload_n 1) 1 none,
  i_v 1 (.iconst 0) 1 none 0 [],
  i_v 2 (.sipush 255) 3 none 255 [],
  i_m 5 (.invokestatic 128) 3 none 3 99 [1106, 1107, 117, 1108] 0 sX9_in,
  i_j 8 (.ifCond .ne 5) 3 none 7,
  i_v 11 (.iconst (-1)) 1 none (-1) [],
  i_0 12 (.ireturn) 1 none,
  i_0 13 (.aload_n 0) 1 none,
  i_f 14 (.getfield 169) 3 none 9 18 [943] 0,
  i_v 17 (.bipush 120) 2 none 120 [],
  i_j 19 (.if_icmp .ne 6) 3 none 13,
  i_v 22 (.bipush (-3)) 2 none (-3) [],
  i_0 24 (.ireturn) 1 none,
  i_0 25 (.aload_n 0) 1 none,
  i_f 26 (.getfield 49) 3 none 9 17 [942] 1,
  i_0 29 (.aload_n 0) 1 none,
  i_f 30 (.getfield 169) 3 none 9 18 [943] 0,
  i_0 33 (.iload_n 1) 1 none,
  i_0 34 (.i2b) 1 none,
  i_0 35 (.bastore) 1 none,
  i_0 36 (.aload_n 0) 1 none,
  i_0 37 (.dup) 1 none,
  i_f 38 (.getfield 169) 3 none 9 18 [943] 0,
  i_v 41 (.iconst 1) 1 none 1 [],
  i_0 42 (.iadd) 1 none,
  i_f 43 (.putfield 169) 3 none 9 18 [943] 0,
  i_0 46 (.aload_n 0) 1 none,
  i_f 47 (.getfield 169) 3 none 9 18 [943] 0,
  i_0 50 (.ireturn) 1 none]
set_option maxRecDepth 100000 in
theorem oX9_feed : xm_ok sX9_feed sX9_feed.1.cls kX9_feed = true := by decide +kernel
set_option maxRecDepth 100000 in
set_option maxHeartbeats 4000000 in
theorem xX9_feed_0 {K : Nat} {h : xm_H} {P : Option Value → xm_H → Prop} {a0 : Nat} {x1 : Int32} (H :
    xm_Call K sX9_in 99 [.int x1, .int (0 : Int32), .int (255 : Int32)] h (xm_pi fun c2 h1 =>
      (if c2 = 0 then
        P (some (.int (-1 : Int32))) h1
      else
        ∃ f3, xm_fld h1 a0 9 18 = some (.int f3) ∧ /- taped -/
        (if f3 = (120 : Int32) then
          P (some (.int (-3 : Int32))) h1
        else
          ∃ q4, xm_fld h1 a0 9 17 = some (.ref q4) ∧ /- tape -/
          ∃ f5, xm_fld h1 a0 9 18 = some (.int f5) ∧ /- taped -/
          ∃ h6, xm_sto h1 1 q4 f5 ((Int32.toInt8 x1).toInt32) = some h6 ∧
          ∃ f7, xm_fld h6 a0 9 18 = some (.int f7) ∧ /- taped -/
          ∃ h8, xm_put h6 a0 9 18 (.int (f7 + (1 : Int32))) = some h8 ∧ /- taped -/
          ∃ f9, xm_fld h8 a0 9 18 = some (.int f9) ∧ /- taped -/
          P (some (.int f9)) h8)))) :
    xm_L K sX9_feed kX9_feed 0 [some (.ref a0), some (.int x1)] [] h P :=
  xm_run (fun _ _ h => h) oX9_feed 26 0 0 0 [some (.ref a0), some (.int x1)] [] h H
set_option maxRecDepth 100000 in
theorem eX9_feed {K K' : Nat} (hK : K < K') {h : xm_H} {P : Option Value → xm_H → Prop} {a0 : Nat} {x1 : Int32} (hr : ∃ fs, h[a0]? = some (.inr (9, fs))) (H :
    xm_Call K sX9_in 99 [.int x1, .int (0 : Int32), .int (255 : Int32)] h (xm_pi fun c2 h1 =>
      (if c2 = 0 then
        P (some (.int (-1 : Int32))) h1
      else
        ∃ f3, xm_fld h1 a0 9 18 = some (.int f3) ∧ /- taped -/
        (if f3 = (120 : Int32) then
          P (some (.int (-3 : Int32))) h1
        else
          ∃ q4, xm_fld h1 a0 9 17 = some (.ref q4) ∧ /- tape -/
          ∃ f5, xm_fld h1 a0 9 18 = some (.int f5) ∧ /- taped -/
          ∃ h6, xm_sto h1 1 q4 f5 ((Int32.toInt8 x1).toInt32) = some h6 ∧
          ∃ f7, xm_fld h6 a0 9 18 = some (.int f7) ∧ /- taped -/
          ∃ h8, xm_put h6 a0 9 18 (.int (f7 + (1 : Int32))) = some h8 ∧ /- taped -/
          ∃ f9, xm_fld h8 a0 9 18 = some (.int f9) ∧ /- taped -/
          P (some (.int f9)) h8)))) :
    xm_Call K' sX9_feed 9 [.ref a0, .int x1] h P :=
  xm_call_of (C := kX9_feed) hK (by decide +kernel) rfl (Nat.le_of_ble_eq_true rfl) (Or.inr ⟨a0, hr.choose, rfl, hr.choose_spec⟩) (xX9_feed_0 H)

def kX9_look : List xm_I := [
  i_0 0 (.aload_n 0) 1 none,
  i_f 1 (.getfield 172) 3 none 9 19 [944] 0,
  i_0 4 (.aload_n 0) 1 none,
  i_f 5 (.getfield 169) 3 none 9 18 [943] 0,
  i_j 8 (.if_icmp .ge 15) 3 none 11,
  i_0 11 (.aload_n 0) 1 none,
  i_f 12 (.getfield 49) 3 none 9 17 [942] 1,
  i_0 15 (.aload_n 0) 1 none,
  i_f 16 (.getfield 172) 3 none 9 19 [944] 0,
  i_0 19 (.baload) 1 none,
  i_j 20 (.goto 4) 3 none 12,
  i_v 23 (.iconst (-1)) 1 none (-1) [],
  i_0 24 (.ireturn) 1 none]
set_option maxRecDepth 100000 in
theorem oX9_look : xm_ok sX9_look sX9_look.1.cls kX9_look = true := by decide +kernel
set_option maxRecDepth 100000 in
set_option maxHeartbeats 4000000 in
theorem xX9_look_0 {K : Nat} {h : xm_H} {P : Option Value → xm_H → Prop} {a0 : Nat} (H :
    ∃ f1, xm_fld h a0 9 19 = some (.int f1) ∧ /- here -/
    ∃ f2, xm_fld h a0 9 18 = some (.int f2) ∧ /- taped -/
    (if f1 < f2 then
      ∃ q3, xm_fld h a0 9 17 = some (.ref q3) ∧ /- tape -/
      ∃ f4, xm_fld h a0 9 19 = some (.int f4) ∧ /- here -/
      ∃ e5, xm_ld xm_st h 1 q3 f4 = some e5 ∧
      P (some (.int e5)) h
    else
      P (some (.int (-1 : Int32))) h)) :
    xm_L K sX9_look kX9_look 0 [some (.ref a0)] [] h P :=
  xm_run (fun _ _ h => h) oX9_look 13 0 0 0 [some (.ref a0)] [] h H
set_option maxRecDepth 100000 in
theorem eX9_look {K K' : Nat} (hK : K < K') {h : xm_H} {P : Option Value → xm_H → Prop} {a0 : Nat} (hr : ∃ fs, h[a0]? = some (.inr (9, fs))) (H :
    ∃ f1, xm_fld h a0 9 19 = some (.int f1) ∧ /- here -/
    ∃ f2, xm_fld h a0 9 18 = some (.int f2) ∧ /- taped -/
    (if f1 < f2 then
      ∃ q3, xm_fld h a0 9 17 = some (.ref q3) ∧ /- tape -/
      ∃ f4, xm_fld h a0 9 19 = some (.int f4) ∧ /- here -/
      ∃ e5, xm_ld xm_st h 1 q3 f4 = some e5 ∧
      P (some (.int e5)) h
    else
      P (some (.int (-1 : Int32))) h)) :
    xm_Call K' sX9_look 9 [.ref a0] h P :=
  xm_call_of (C := kX9_look) hK (by decide +kernel) rfl (Nat.le_of_ble_eq_true rfl) (Or.inr ⟨a0, hr.choose, rfl, hr.choose_spec⟩) (xX9_look_0 H)

def kX9_wrong : List xm_I := [
  i_0 0 (.aload_n 0) 1 none,
  i_f 1 (.getfield 175) 3 none 9 20 [945] 0,
  i_j 4 (.ifCond .ge 11) 3 none 7,
  i_0 7 (.aload_n 0) 1 none,
  i_0 8 (.aload_n 0) 1 none,
  i_f 9 (.getfield 172) 3 none 9 19 [944] 0,
  i_f 12 (.putfield 175) 3 none 9 20 [945] 0,
  i_0 15 (.return_) 1 none]
set_option maxRecDepth 100000 in
theorem oX9_wrong : xm_ok sX9_wrong sX9_wrong.1.cls kX9_wrong = true := by decide +kernel
set_option maxRecDepth 100000 in
set_option maxHeartbeats 4000000 in
theorem xX9_wrong_0 {K : Nat} {h : xm_H} {P : Option Value → xm_H → Prop} {a0 : Nat} (H :
    ∃ f1, xm_fld h a0 9 20 = some (.int f1) ∧ /- fault -/
    (if f1 < 0 then
      ∃ f2, xm_fld h a0 9 19 = some (.int f2) ∧ /- here -/
      ∃ h3, xm_put h a0 9 20 (.int f2) = some h3 ∧ /- fault -/
      P none h3
    else
      P none h)) :
    xm_L K sX9_wrong kX9_wrong 0 [some (.ref a0)] [] h P :=
  xm_run (fun _ _ h => h) oX9_wrong 9 0 0 0 [some (.ref a0)] [] h H
set_option maxRecDepth 100000 in
theorem eX9_wrong {K K' : Nat} (hK : K < K') {h : xm_H} {P : Option Value → xm_H → Prop} {a0 : Nat} (hr : ∃ fs, h[a0]? = some (.inr (9, fs))) (H :
    ∃ f1, xm_fld h a0 9 20 = some (.int f1) ∧ /- fault -/
    (if f1 < 0 then
      ∃ f2, xm_fld h a0 9 19 = some (.int f2) ∧ /- here -/
      ∃ h3, xm_put h a0 9 20 (.int f2) = some h3 ∧ /- fault -/
      P none h3
    else
      P none h)) :
    xm_Call K' sX9_wrong 9 [.ref a0] h P :=
  xm_call_of (C := kX9_wrong) hK (by decide +kernel) rfl (Nat.le_of_ble_eq_true rfl) (Or.inr ⟨a0, hr.choose, rfl, hr.choose_spec⟩) (xX9_wrong_0 H)

def kX9_addStep : List xm_I := [
  i_0 0 (.aload_n 0) 1 none,
  i_f 1 (.getfield 53) 3 none 9 23 [948] 1,
  i_v 4 (.sipush 130) 3 none 130 [],
  i_0 7 (.aload_n 0) 1 none,
  i_f 8 (.getfield 178) 3 none 9 22 [947] 0,
  i_0 11 (.iadd) 1 none,
  i_0 12 (.iload_n 1) 1 none,
  i_0 13 (.i2b) 1 none,
  i_0 14 (.bastore) 1 none,
  i_0 15 (.aload_n 0) 1 none,
  i_f 16 (.getfield 56) 3 none 9 24 [949] 1,
  i_v 19 (.sipush 130) 3 none 130 [],
  i_0 22 (.aload_n 0) 1 none,
  i_f 23 (.getfield 178) 3 none 9 22 [947] 0,
  i_0 26 (.iadd) 1 none,
  i_0 27 (.iload_n 2) 1 none,
  i_0 28 (.iastore) 1 none,
  i_0 29 (.aload_n 0) 1 none,
  i_0 30 (.dup) 1 none,
  i_f 31 (.getfield 178) 3 none 9 22 [947] 0,
  i_v 34 (.iconst 1) 1 none 1 [],
  i_0 35 (.iadd) 1 none,
  i_f 36 (.putfield 178) 3 none 9 22 [947] 0,
  i_0 39 (.return_) 1 none]
set_option maxRecDepth 100000 in
theorem oX9_addStep : xm_ok sX9_addStep sX9_addStep.1.cls kX9_addStep = true := by decide +kernel
set_option maxRecDepth 100000 in
set_option maxHeartbeats 4000000 in
theorem xX9_addStep_0 {K : Nat} {h : xm_H} {P : Option Value → xm_H → Prop} {a0 : Nat} {x1 : Int32} {x2 : Int32} (H :
    ∃ q1, xm_fld h a0 9 23 = some (.ref q1) ∧ /- act -/
    ∃ f2, xm_fld h a0 9 22 = some (.int f2) ∧ /- laid -/
    ∃ h3, xm_sto h 1 q1 ((130 : Int32) + f2) ((Int32.toInt8 x1).toInt32) = some h3 ∧
    ∃ q4, xm_fld h3 a0 9 24 = some (.ref q4) ∧ /- with -/
    ∃ f5, xm_fld h3 a0 9 22 = some (.int f5) ∧ /- laid -/
    ∃ h6, xm_sto h3 0 q4 ((130 : Int32) + f5) x2 = some h6 ∧
    ∃ f7, xm_fld h6 a0 9 22 = some (.int f7) ∧ /- laid -/
    ∃ h8, xm_put h6 a0 9 22 (.int (f7 + (1 : Int32))) = some h8 ∧ /- laid -/
    P none h8) :
    xm_L K sX9_addStep kX9_addStep 0 [some (.ref a0), some (.int x1), some (.int x2)] [] h P :=
  xm_run (fun _ _ h => h) oX9_addStep 25 0 0 0 [some (.ref a0), some (.int x1), some (.int x2)] [] h H
set_option maxRecDepth 100000 in
theorem eX9_addStep {K K' : Nat} (hK : K < K') {h : xm_H} {P : Option Value → xm_H → Prop} {a0 : Nat} {x1 : Int32} {x2 : Int32} (hr : ∃ fs, h[a0]? = some (.inr (9, fs))) (H :
    ∃ q1, xm_fld h a0 9 23 = some (.ref q1) ∧ /- act -/
    ∃ f2, xm_fld h a0 9 22 = some (.int f2) ∧ /- laid -/
    ∃ h3, xm_sto h 1 q1 ((130 : Int32) + f2) ((Int32.toInt8 x1).toInt32) = some h3 ∧
    ∃ q4, xm_fld h3 a0 9 24 = some (.ref q4) ∧ /- with -/
    ∃ f5, xm_fld h3 a0 9 22 = some (.int f5) ∧ /- laid -/
    ∃ h6, xm_sto h3 0 q4 ((130 : Int32) + f5) x2 = some h6 ∧
    ∃ f7, xm_fld h6 a0 9 22 = some (.int f7) ∧ /- laid -/
    ∃ h8, xm_put h6 a0 9 22 (.int (f7 + (1 : Int32))) = some h8 ∧ /- laid -/
    P none h8) :
    xm_Call K' sX9_addStep 9 [.ref a0, .int x1, .int x2] h P :=
  xm_call_of (C := kX9_addStep) hK (by decide +kernel) rfl (Nat.le_of_ble_eq_true rfl) (Or.inr ⟨a0, hr.choose, rfl, hr.choose_spec⟩) (xX9_addStep_0 H)

