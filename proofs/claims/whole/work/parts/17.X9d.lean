def kX9_pooledBy : List xm_I := [
  i_0 0 (.iload_n 1) 1 none,
  i_m 1 (.invokestatic 320) 3 none 1 99 [1354, 1355, 117, 1356] 0 sX9_bitsOf,
  i_0 4 (.istore_n 2) 1 none,
  i_0 5 (.aload_n 0) 1 none,
  i_0 6 (.iload_n 1) 1 none,
  i_m 7 (.invokevirtual 291) 3 none 1 9 [1282, 1284, 65, 117, 1285] 0 sX9_sharesOf,
  i_0 10 (.iload_n 2) 1 none,
  i_0 11 (.iadd) 1 none,
  i_v 12 (.iconst 1) 1 none 1 [],
  i_0 13 (.isub) 1 none,
  i_0 14 (.iload_n 2) 1 none,
  i_0 15 (.idiv) 1 none,
  i_0 16 (.ireturn) 1 none]
set_option maxRecDepth 100000 in
theorem oX9_pooledBy : xm_ok sX9_pooledBy sX9_pooledBy.1.cls kX9_pooledBy = true := by decide +kernel
set_option maxRecDepth 100000 in
set_option maxHeartbeats 4000000 in
theorem xX9_pooledBy_0 {K : Nat} {h : xm_H} {P : Option Value → xm_H → Prop} {a0 : Nat} {x1 : Int32} (H :
    xm_Call K sX9_bitsOf 99 [.int x1] h (xm_pi fun c2 h1 =>
      xm_Call K sX9_sharesOf 9 [.ref a0, .int x1] h1 (xm_pi fun c4 h3 =>
        ¬ c2 = 0 ∧
        P (some (.int (((c4 + c2) - (1 : Int32)) / c2))) h3))) :
    xm_L K sX9_pooledBy kX9_pooledBy 0 [some (.ref a0), some (.int x1), none] [] h P :=
  xm_run (fun _ _ h => h) oX9_pooledBy 14 0 0 0 [some (.ref a0), some (.int x1), none] [] h H
set_option maxRecDepth 100000 in
theorem eX9_pooledBy {K K' : Nat} (hK : K < K') {h : xm_H} {P : Option Value → xm_H → Prop} {a0 : Nat} {x1 : Int32} (hr : ∃ fs, h[a0]? = some (.inr (9, fs))) (H :
    xm_Call K sX9_bitsOf 99 [.int x1] h (xm_pi fun c2 h1 =>
      xm_Call K sX9_sharesOf 9 [.ref a0, .int x1] h1 (xm_pi fun c4 h3 =>
        ¬ c2 = 0 ∧
        P (some (.int (((c4 + c2) - (1 : Int32)) / c2))) h3))) :
    xm_Call K' sX9_pooledBy 9 [.ref a0, .int x1] h P :=
  xm_call_of (C := kX9_pooledBy) hK (by decide +kernel) rfl (Nat.le_of_ble_eq_true rfl) (Or.inr ⟨a0, hr.choose, rfl, hr.choose_spec⟩) (xX9_pooledBy_0 H)

def kX9_pool : List xm_I := [
  i_0 0 (.aload_n 0) 1 none,
  i_0 1 (.iload_n 2) 1 none,
  i_m 2 (.invokevirtual 156) 3 none 1 9 [1141, 1143, 37, 117, 1144] 0 sX9_isOne,
  i_j 5 (.ifCond .eq 23) 3 none 14,
  i_0 8 (.iload_n 1) 1 none,
  i_v 9 (.iconst 1) 1 none 1 [],
  i_0 10 (.aload_n 0) 1 none,
  i_m 11 (.invokevirtual 288) 3 none 0 9 [1278, 1280, 64, 117, 1281] 0 sX9_everybody,
  i_m 14 (.invokestatic 128) 3 none 3 99 [1106, 1107, 117, 1108] 0 sX9_in,
  i_j 17 (.ifCond .eq 11) 3 none 14,
  i_0 20 (.iload_n 1) 1 none,
  i_0 21 (.iload_n 2) 1 none,
  i_m 22 (.invokestatic 279) 3 none 2 99 [1286, 1287, 117, 1288] 0 sX9_has,
  i_j 25 (.ifCond .ne 7) 3 none 16,
  i_v 28 (.ldc_w 297) 3 none (-2000000000) [1305],
  i_0 31 (.ireturn) 1 none,
  i_0 32 (.aload_n 0) 1 none,
  i_m 33 (.invokevirtual 267) 3 none 0 9 [1227, 1229, 53, 117, 1230] 0 sX9_layNow,
  i_0 36 (.aload_n 0) 1 none,
  i_m 37 (.invokevirtual 285) 3 none 0 9 [1270, 1272, 62, 117, 1273] 0 sX9_assess,
  i_0 40 (.aload_n 0) 1 none,
  i_0 41 (.iload_n 2) 1 none,
  i_m 42 (.invokevirtual 282) 3 none 1 9 [1289, 1291, 66, 117, 1292] 0 sX9_shareOf,
  i_0 45 (.aload_n 0) 1 none,
  i_0 46 (.iload_n 1) 1 none,
  i_m 47 (.invokevirtual 323) 3 none 1 9 [1350, 1352, 74, 117, 1353] 0 sX9_pooledBy,
  i_0 50 (.isub) 1 none,
  i_0 51 (.ireturn) 1 none]
set_option maxRecDepth 100000 in
theorem oX9_pool : xm_ok sX9_pool sX9_pool.1.cls kX9_pool = true := by decide +kernel
set_option maxRecDepth 100000 in
set_option maxHeartbeats 4000000 in
theorem xX9_pool_0 {K : Nat} {h : xm_H} {P : Option Value → xm_H → Prop} {a0 : Nat} {x1 : Int32} {x2 : Int32} (H :
    xm_Call K sX9_isOne 9 [.ref a0, .int x2] h (xm_pi fun c2 h1 =>
      (if c2 = 0 then
        P (some (.int (-2000000000 : Int32))) h1
      else
        xm_Call K sX9_everybody 9 [.ref a0] h1 (xm_pi fun c4 h3 =>
          xm_Call K sX9_in 99 [.int x1, .int (1 : Int32), .int c4] h3 (xm_pi fun c6 h5 =>
            (if c6 = 0 then
              P (some (.int (-2000000000 : Int32))) h5
            else
              xm_Call K sX9_has 99 [.int x1, .int x2] h5 (xm_pi fun c8 h7 =>
                (if c8 = 0 then
                  P (some (.int (-2000000000 : Int32))) h7
                else
                  xm_Call K sX9_layNow 9 [.ref a0] h7 (xm_pv fun h9 =>
                    xm_Call K sX9_assess 9 [.ref a0] h9 (xm_pv fun h10 =>
                      xm_Call K sX9_shareOf 9 [.ref a0, .int x2] h10 (xm_pi fun c12 h11 =>
                        xm_Call K sX9_pooledBy 9 [.ref a0, .int x1] h11 (xm_pi fun c14 h13 =>
                          P (some (.int (c12 - c14))) h13)))))))))))) :
    xm_L K sX9_pool kX9_pool 0 [some (.ref a0), some (.int x1), some (.int x2)] [] h P :=
  xm_run (fun _ _ h => h) oX9_pool 27 0 0 0 [some (.ref a0), some (.int x1), some (.int x2)] [] h H
set_option maxRecDepth 100000 in
theorem eX9_pool {K K' : Nat} (hK : K < K') {h : xm_H} {P : Option Value → xm_H → Prop} {a0 : Nat} {x1 : Int32} {x2 : Int32} (hr : ∃ fs, h[a0]? = some (.inr (9, fs))) (H :
    xm_Call K sX9_isOne 9 [.ref a0, .int x2] h (xm_pi fun c2 h1 =>
      (if c2 = 0 then
        P (some (.int (-2000000000 : Int32))) h1
      else
        xm_Call K sX9_everybody 9 [.ref a0] h1 (xm_pi fun c4 h3 =>
          xm_Call K sX9_in 99 [.int x1, .int (1 : Int32), .int c4] h3 (xm_pi fun c6 h5 =>
            (if c6 = 0 then
              P (some (.int (-2000000000 : Int32))) h5
            else
              xm_Call K sX9_has 99 [.int x1, .int x2] h5 (xm_pi fun c8 h7 =>
                (if c8 = 0 then
                  P (some (.int (-2000000000 : Int32))) h7
                else
                  xm_Call K sX9_layNow 9 [.ref a0] h7 (xm_pv fun h9 =>
                    xm_Call K sX9_assess 9 [.ref a0] h9 (xm_pv fun h10 =>
                      xm_Call K sX9_shareOf 9 [.ref a0, .int x2] h10 (xm_pi fun c12 h11 =>
                        xm_Call K sX9_pooledBy 9 [.ref a0, .int x1] h11 (xm_pi fun c14 h13 =>
                          P (some (.int (c12 - c14))) h13)))))))))))) :
    xm_Call K' sX9_pool 9 [.ref a0, .int x1, .int x2] h P :=
  xm_call_of (C := kX9_pool) hK (by decide +kernel) rfl (Nat.le_of_ble_eq_true rfl) (Or.inr ⟨a0, hr.choose, rfl, hr.choose_spec⟩) (xX9_pool_0 H)

def kX9_assessedBits : List xm_I := [
  i_v 0 (.iconst 0) 1 none 0 [],
  i_0 1 (.istore_n 1) 1 none,
  i_v 2 (.iconst 0) 1 none 0 [],
  i_0 3 (.istore_n 2) 1 none,
  i_0 4 (.iload_n 2) 1 (some [true, true, true]),
  i_0 5 (.aload_n 0) 1 none,
  i_f 6 (.getfield 125) 3 none 9 1 [926] 0,
  i_j 9 (.if_icmp .ge 24) 3 none 21,
  i_0 12 (.aload_n 0) 1 none,
  i_f 13 (.getfield 87) 3 none 9 35 [960] 1,
  i_0 16 (.iload_n 2) 1 none,
  i_0 17 (.iaload) 1 none,
  i_j 18 (.ifCond .le 9) 3 none 19,
  i_0 21 (.iload_n 1) 1 none,
  i_v 22 (.iconst 1) 1 none 1 [],
  i_0 23 (.iload_n 2) 1 none,
  i_0 24 (.ishl) 1 none,
  i_0 25 (.ior) 1 none,
  i_0 26 (.istore_n 1) 1 none,
  i_v 27 (.iinc 2 1) 3 none 1 [],
  i_j 30 (.goto (-26)) 3 none 4,
  i_0 33 (.iload_n 1) 1 none,
  i_0 34 (.ireturn) 1 none]
set_option maxRecDepth 100000 in
theorem oX9_assessedBits : xm_ok sX9_assessedBits sX9_assessedBits.1.cls kX9_assessedBits = true := by decide +kernel
set_option maxRecDepth 100000 in
set_option maxHeartbeats 4000000 in
theorem xX9_assessedBits_0 {K : Nat} {h : xm_H} {P : Option Value → xm_H → Prop} {a0 : Nat} (H :
    xm_L K sX9_assessedBits kX9_assessedBits 4 [some (.ref a0), some (.int (0 : Int32)), some (.int (0 : Int32))] [] h P) :
    xm_L K sX9_assessedBits kX9_assessedBits 0 [some (.ref a0), none, none] [] h P :=
  xm_run (fun _ _ h => h) oX9_assessedBits 5 0 0 0 [some (.ref a0), none, none] [] h H
set_option maxRecDepth 100000 in
theorem eX9_assessedBits {K K' : Nat} (hK : K < K') {h : xm_H} {P : Option Value → xm_H → Prop} {a0 : Nat} (hr : ∃ fs, h[a0]? = some (.inr (9, fs))) (H :
    xm_L K sX9_assessedBits kX9_assessedBits 4 [some (.ref a0), some (.int (0 : Int32)), some (.int (0 : Int32))] [] h P) :
    xm_Call K' sX9_assessedBits 9 [.ref a0] h P :=
  xm_call_of (C := kX9_assessedBits) hK (by decide +kernel) rfl (Nat.le_of_ble_eq_true rfl) (Or.inr ⟨a0, hr.choose, rfl, hr.choose_spec⟩) (xX9_assessedBits_0 H)

set_option maxRecDepth 100000 in
set_option maxHeartbeats 4000000 in
theorem xX9_assessedBits_4 {K : Nat} {h : xm_H} {P : Option Value → xm_H → Prop} {a0 : Nat} {x1 : Int32} {x2 : Int32} (H :
    ∃ f1, xm_fld h a0 9 1 = some (.int f1) ∧ /- many -/
    (if x2 < f1 then
      ∃ q2, xm_fld h a0 9 35 = some (.ref q2) ∧ /- assessed -/
      ∃ e3, xm_ld xm_st h 0 q2 x2 = some e3 ∧
      (if 0 < e3 then
        xm_L K sX9_assessedBits kX9_assessedBits 4 [some (.ref a0), some (.int (x1 ||| ((1 : Int32) <<< (x2 &&& 31)))), some (.int (x2 + (1 : Int32)))] [] h P
      else
        xm_L K sX9_assessedBits kX9_assessedBits 4 [some (.ref a0), some (.int x1), some (.int (x2 + (1 : Int32)))] [] h P)
    else
      P (some (.int x1)) h)) :
    xm_L K sX9_assessedBits kX9_assessedBits 4 [some (.ref a0), some (.int x1), some (.int x2)] [] h P :=
  xm_run (fun _ _ h => h) oX9_assessedBits 18 4 0 0 [some (.ref a0), some (.int x1), some (.int x2)] [] h H

def kX9_spared : List xm_I := [
  i_0 0 (.aload_n 0) 1 none,
  i_m 1 (.invokevirtual 267) 3 none 0 9 [1227, 1229, 53, 117, 1230] 0 sX9_layNow,
  i_0 4 (.aload_n 0) 1 none,
  i_m 5 (.invokevirtual 285) 3 none 0 9 [1270, 1272, 62, 117, 1273] 0 sX9_assess,
  i_0 8 (.aload_n 0) 1 none,
  i_m 9 (.invokevirtual 326) 3 none 0 9 [1361, 1363, 75, 117, 1364] 0 sX9_assessedBits,
  i_0 12 (.istore_n 1) 1 none,
  i_0 13 (.iload_n 1) 1 none,
  i_j 14 (.ifCond .ne 5) 3 none 11,
  i_v 17 (.iconst 0) 1 none 0 [],
  i_0 18 (.ireturn) 1 none,
  i_v 19 (.iconst 0) 1 none 0 [],
  i_0 20 (.istore_n 2) 1 none,
  i_v 21 (.iconst 0) 1 none 0 [],
  i_0 22 (.istore_n 3) 1 none,
  i_0 23 (.iload_n 3) 1 (some [true, true, true, true]),
  i_0 24 (.aload_n 0) 1 none,
  i_f 25 (.getfield 125) 3 none 9 1 [926] 0,
  i_j 28 (.if_icmp .ge 36) 3 none 38,
  i_0 31 (.iload_n 1) 1 none,
  i_0 32 (.iload_n 3) 1 none,
  i_m 33 (.invokestatic 279) 3 none 2 99 [1286, 1287, 117, 1288] 0 sX9_has,
  i_j 36 (.ifCond .eq 22) 3 none 36,
  i_0 39 (.aload_n 0) 1 none,
  i_0 40 (.iload_n 1) 1 none,
  i_m 41 (.invokevirtual 323) 3 none 1 9 [1350, 1352, 74, 117, 1353] 0 sX9_pooledBy,
  i_0 44 (.aload_n 0) 1 none,
  i_0 45 (.iload_n 3) 1 none,
  i_m 46 (.invokevirtual 282) 3 none 1 9 [1289, 1291, 66, 117, 1292] 0 sX9_shareOf,
  i_j 49 (.if_icmp .ge 9) 3 none 36,
  i_0 52 (.iload_n 2) 1 none,
  i_v 53 (.iconst 1) 1 none 1 [],
  i_0 54 (.iload_n 3) 1 none,
  i_0 55 (.ishl) 1 none,
  i_0 56 (.ior) 1 none,
  i_0 57 (.istore_n 2) 1 none,
  i_v 58 (.iinc 3 1) 3 none 1 [],
  i_j 61 (.goto (-38)) 3 none 15,
  i_0 64 (.iload_n 2) 1 none,
  i_0 65 (.ireturn) 1 none]
set_option maxRecDepth 100000 in
theorem oX9_spared : xm_ok sX9_spared sX9_spared.1.cls kX9_spared = true := by decide +kernel
set_option maxRecDepth 100000 in
set_option maxHeartbeats 4000000 in
theorem xX9_spared_0 {K : Nat} {h : xm_H} {P : Option Value → xm_H → Prop} {a0 : Nat} (H :
    xm_Call K sX9_layNow 9 [.ref a0] h (xm_pv fun h1 =>
      xm_Call K sX9_assess 9 [.ref a0] h1 (xm_pv fun h2 =>
        xm_Call K sX9_assessedBits 9 [.ref a0] h2 (xm_pi fun c4 h3 =>
          (if c4 = 0 then
            P (some (.int (0 : Int32))) h3
          else
            xm_L K sX9_spared kX9_spared 15 [some (.ref a0), some (.int c4), some (.int (0 : Int32)), some (.int (0 : Int32))] [] h3 P))))) :
    xm_L K sX9_spared kX9_spared 0 [some (.ref a0), none, none, none] [] h P :=
  xm_run (fun _ _ h => h) oX9_spared 14 0 0 0 [some (.ref a0), none, none, none] [] h H
set_option maxRecDepth 100000 in
theorem eX9_spared {K K' : Nat} (hK : K < K') {h : xm_H} {P : Option Value → xm_H → Prop} {a0 : Nat} (hr : ∃ fs, h[a0]? = some (.inr (9, fs))) (H :
    xm_Call K sX9_layNow 9 [.ref a0] h (xm_pv fun h1 =>
      xm_Call K sX9_assess 9 [.ref a0] h1 (xm_pv fun h2 =>
        xm_Call K sX9_assessedBits 9 [.ref a0] h2 (xm_pi fun c4 h3 =>
          (if c4 = 0 then
            P (some (.int (0 : Int32))) h3
          else
            xm_L K sX9_spared kX9_spared 15 [some (.ref a0), some (.int c4), some (.int (0 : Int32)), some (.int (0 : Int32))] [] h3 P))))) :
    xm_Call K' sX9_spared 9 [.ref a0] h P :=
  xm_call_of (C := kX9_spared) hK (by decide +kernel) rfl (Nat.le_of_ble_eq_true rfl) (Or.inr ⟨a0, hr.choose, rfl, hr.choose_spec⟩) (xX9_spared_0 H)

set_option maxRecDepth 100000 in
set_option maxHeartbeats 4000000 in
theorem xX9_spared_15 {K : Nat} {h : xm_H} {P : Option Value → xm_H → Prop} {a0 : Nat} {x1 : Int32} {x2 : Int32} {x3 : Int32} (H :
    ∃ f1, xm_fld h a0 9 1 = some (.int f1) ∧ /- many -/
    (if x3 < f1 then
      xm_Call K sX9_has 99 [.int x1, .int x3] h (xm_pi fun c3 h2 =>
        (if c3 = 0 then
          xm_L K sX9_spared kX9_spared 15 [some (.ref a0), some (.int x1), some (.int x2), some (.int (x3 + (1 : Int32)))] [] h2 P
        else
          xm_Call K sX9_pooledBy 9 [.ref a0, .int x1] h2 (xm_pi fun c5 h4 =>
            xm_Call K sX9_shareOf 9 [.ref a0, .int x3] h4 (xm_pi fun c7 h6 =>
              (if c5 < c7 then
                xm_L K sX9_spared kX9_spared 15 [some (.ref a0), some (.int x1), some (.int (x2 ||| ((1 : Int32) <<< (x3 &&& 31)))), some (.int (x3 + (1 : Int32)))] [] h6 P
              else
                xm_L K sX9_spared kX9_spared 15 [some (.ref a0), some (.int x1), some (.int x2), some (.int (x3 + (1 : Int32)))] [] h6 P)))))
    else
      P (some (.int x2)) h)) :
    xm_L K sX9_spared kX9_spared 15 [some (.ref a0), some (.int x1), some (.int x2), some (.int x3)] [] h P :=
  xm_run (fun _ _ h => h) oX9_spared 24 15 0 0 [some (.ref a0), some (.int x1), some (.int x2), some (.int x3)] [] h H

def kX9_goYear : List xm_I := [
  i_0 0 (.aload_n 0) 1 none,
  i_m 1 (.invokevirtual 285) 3 none 0 9 [1270, 1272, 62, 117, 1273] 0 sX9_assess,
  i_v 4 (.iconst 0) 1 none 0 [],
  i_0 5 (.istore_n 1) 1 none,
  i_0 6 (.iload_n 1) 1 (some [true, true, false, false]),
  i_0 7 (.aload_n 0) 1 none,
  i_f 8 (.getfield 125) 3 none 9 1 [926] 0,
  i_j 11 (.if_icmp .ge 108) 3 none 69,
  i_0 14 (.aload_n 0) 1 none,
  i_0 15 (.iload_n 1) 1 none,
  i_m 16 (.invokevirtual 282) 3 none 1 9 [1289, 1291, 66, 117, 1292] 0 sX9_shareOf,
  i_0 19 (.aload_n 0) 1 none,
  i_0 20 (.iload_n 1) 1 none,
  i_m 21 (.invokevirtual 255) 3 none 1 9 [1251, 1253, 59, 117, 1254] 0 sX9_leaves,
  i_j 24 (.ifCond .eq 12) 3 none 20,
  i_0 27 (.aload_n 0) 1 none,
  i_f 28 (.getfield 243) 3 none 9 36 [961] 0,
  i_v 31 (.iconst 2) 1 none 2 [],
  i_0 32 (.idiv) 1 none,
  i_j 33 (.goto 4) 3 none 21,
  i_v 36 (.iconst 0) 1 none 0 [],
  i_0 37 (.iadd) 1 none,
  i_0 38 (.istore_n 2) 1 none,
  i_0 39 (.aload_n 0) 1 none,
  i_f 40 (.getfield 81) 3 none 9 33 [958] 1,
  i_0 43 (.iload_n 1) 1 none,
  i_0 44 (.iaload) 1 none,
  i_0 45 (.iload_n 2) 1 none,
  i_0 46 (.isub) 1 none,
  i_0 47 (.istore_n 3) 1 none,
  i_0 48 (.aload_n 0) 1 none,
  i_0 49 (.dup) 1 none,
  i_f 50 (.getfield 329) 3 none 9 42 [967] 0,
  i_0 53 (.aload_n 0) 1 none,
  i_0 54 (.iload_n 1) 1 none,
  i_m 55 (.invokevirtual 282) 3 none 1 9 [1289, 1291, 66, 117, 1292] 0 sX9_shareOf,
  i_0 58 (.iadd) 1 none,
  i_f 59 (.putfield 329) 3 none 9 42 [967] 0,
  i_0 62 (.iload_n 3) 1 none,
  i_j 63 (.ifCond .ge 13) 3 none 46,
  i_0 66 (.aload_n 0) 1 none,
  i_0 67 (.dup) 1 none,
  i_f 68 (.getfield 332) 3 none 9 43 [968] 0,
  i_0 71 (.iload_n 3) 1 none,
  i_0 72 (.isub) 1 none,
  i_f 73 (.putfield 332) 3 none 9 43 [968] 0,
  i_0 76 (.iload_n 3) 1 none,
  i_j 77 (.ifCond .ge 7) 3 none 50,
  i_v 80 (.iconst 0) 1 none 0 [],
  i_j 81 (.goto 4) 3 none 51,
  i_0 84 (.iload_n 3) 1 none,
  i_0 85 (.aload_n 0) 1 none,
  i_f 86 (.getfield 28) 3 none 9 8 [933] 1,
  i_0 89 (.iload_n 1) 1 none,
  i_0 90 (.iaload) 1 none,
  i_0 91 (.iadd) 1 none,
  i_0 92 (.istore_n 3) 1 none,
  i_0 93 (.aload_n 0) 1 none,
  i_f 94 (.getfield 81) 3 none 9 33 [958] 1,
  i_0 97 (.iload_n 1) 1 none,
  i_0 98 (.iload_n 3) 1 none,
  i_v 99 (.sipush 9999) 3 none 9999 [],
  i_j 102 (.if_icmp .le 9) 3 none 65,
  i_v 105 (.sipush 9999) 3 none 9999 [],
  i_j 108 (.goto 4) 3 none 66,
  i_0 111 (.iload_n 3) 1 none,
  i_0 112 (.iastore) 1 none,
  i_v 113 (.iinc 1 1) 3 none 1 [],
  i_j 116 (.goto (-110)) 3 none 4,
  i_v 119 (.iconst 0) 1 none 0 [],
  i_0 120 (.istore_n 1) 1 none,
  i_0 121 (.iload_n 1) 1 (some [true, true, false, false]),
  i_0 122 (.aload_n 0) 1 none,
  i_f 123 (.getfield 125) 3 none 9 1 [926] 0,
  i_j 126 (.if_icmp .ge 30) 3 none 91,
  i_0 129 (.aload_n 0) 1 none,
  i_f 130 (.getfield 84) 3 none 9 34 [959] 1,
  i_0 133 (.iload_n 1) 1 none,
  i_0 134 (.iaload) 1 none,
  i_v 135 (.bipush 99) 2 none 99 [],
  i_j 137 (.if_icmp .ge 13) 3 none 89,
  i_0 140 (.aload_n 0) 1 none,
  i_f 141 (.getfield 84) 3 none 9 34 [959] 1,
  i_0 144 (.iload_n 1) 1 none,
  i_0 145 (.dup2) 1 none,
  i_0 146 (.iaload) 1 none,
  i_v 147 (.iconst 1) 1 none 1 [],
  i_0 148 (.iadd) 1 none,
  i_0 149 (.iastore) 1 none,
  i_v 150 (.iinc 1 1) 3 none 1 [],
  i_j 153 (.goto (-32)) 3 none 71,
  i_0 156 (.aload_n 0) 1 none,
  i_f 157 (.getfield 240) 3 none 9 37 [962] 0,
  i_v 160 (.sipush 199) 3 none 199 [],
  i_j 163 (.if_icmp .ge 13) 3 none 101,
  i_0 166 (.aload_n 0) 1 none,
  i_0 167 (.dup) 1 none,
  i_f 168 (.getfield 240) 3 none 9 37 [962] 0,
  i_v 171 (.iconst 1) 1 none 1 [],
  i_0 172 (.iadd) 1 none,
  i_f 173 (.putfield 240) 3 none 9 37 [962] 0,
  i_0 176 (.aload_n 0) 1 none,
  i_m 177 (.invokevirtual 249) 3 none 0 9 [1231, 1233, 54, 117, 1234] 0 sX9_laySnow,
  i_0 180 (.return_) 1 none]
set_option maxRecDepth 100000 in
theorem oX9_goYear : xm_ok sX9_goYear sX9_goYear.1.cls kX9_goYear = true := by decide +kernel
set_option maxRecDepth 100000 in
set_option maxHeartbeats 4000000 in
theorem xX9_goYear_0 {K : Nat} {h : xm_H} {P : Option Value → xm_H → Prop} {a0 : Nat} (H :
    xm_Call K sX9_assess 9 [.ref a0] h (xm_pv fun h1 =>
      xm_L K sX9_goYear kX9_goYear 4 [some (.ref a0), some (.int (0 : Int32)), none, none] [] h1 P)) :
    xm_L K sX9_goYear kX9_goYear 0 [some (.ref a0), none, none, none] [] h P :=
  xm_run (fun _ _ h => h) oX9_goYear 5 0 0 0 [some (.ref a0), none, none, none] [] h H
set_option maxRecDepth 100000 in
theorem eX9_goYear {K K' : Nat} (hK : K < K') {h : xm_H} {P : Option Value → xm_H → Prop} {a0 : Nat} (hr : ∃ fs, h[a0]? = some (.inr (9, fs))) (H :
    xm_Call K sX9_assess 9 [.ref a0] h (xm_pv fun h1 =>
      xm_L K sX9_goYear kX9_goYear 4 [some (.ref a0), some (.int (0 : Int32)), none, none] [] h1 P)) :
    xm_Call K' sX9_goYear 9 [.ref a0] h P :=
  xm_call_of (C := kX9_goYear) hK (by decide +kernel) rfl (Nat.le_of_ble_eq_true rfl) (Or.inr ⟨a0, hr.choose, rfl, hr.choose_spec⟩) (xX9_goYear_0 H)

set_option maxRecDepth 100000 in
set_option maxHeartbeats 4000000 in
theorem xX9_goYear_4 {K : Nat} {h : xm_H} {P : Option Value → xm_H → Prop} {a0 : Nat} {x1 : Int32} (H :
    ∃ f1, xm_fld h a0 9 1 = some (.int f1) ∧ /- many -/
    (if x1 < f1 then
      xm_Call K sX9_shareOf 9 [.ref a0, .int x1] h (xm_pi fun c3 h2 =>
        xm_Call K sX9_leaves 9 [.ref a0, .int x1] h2 (xm_pi fun c5 h4 =>
          (if c5 = 0 then
            ∃ q6, xm_fld h4 a0 9 33 = some (.ref q6) ∧ /- purse1 -/
            ∃ e7, xm_ld xm_st h4 0 q6 x1 = some e7 ∧
            ∃ f8, xm_fld h4 a0 9 42 = some (.int f8) ∧ /- paid1 -/
            xm_Call K sX9_shareOf 9 [.ref a0, .int x1] h4 (xm_pi fun c10 h9 =>
              ∃ h11, xm_put h9 a0 9 42 (.int (f8 + c10)) = some h11 ∧ /- paid1 -/
              (if (e7 - (c3 + (0 : Int32))) < 0 then
                ∃ f12, xm_fld h11 a0 9 43 = some (.int f12) ∧ /- lacking1 -/
                ∃ h13, xm_put h11 a0 9 43 (.int (f12 - (e7 - (c3 + (0 : Int32))))) = some h13 ∧ /- lacking1 -/
                (if (e7 - (c3 + (0 : Int32))) < 0 then
                  ∃ q14, xm_fld h13 a0 9 8 = some (.ref q14) ∧ /- earnsOf -/
                  ∃ e15, xm_ld xm_st h13 0 q14 x1 = some e15 ∧
                  ∃ q16, xm_fld h13 a0 9 33 = some (.ref q16) ∧ /- purse1 -/
                  (if (9999 : Int32) < ((0 : Int32) + e15) then
                    ∃ h17, xm_sto h13 0 q16 x1 (9999 : Int32) = some h17 ∧
                    xm_L K sX9_goYear kX9_goYear 4 [some (.ref a0), some (.int (x1 + (1 : Int32))), none, none] [] h17 P
                  else
                    ∃ h18, xm_sto h13 0 q16 x1 ((0 : Int32) + e15) = some h18 ∧
                    xm_L K sX9_goYear kX9_goYear 4 [some (.ref a0), some (.int (x1 + (1 : Int32))), none, none] [] h18 P)
                else
                  ∃ q19, xm_fld h13 a0 9 8 = some (.ref q19) ∧ /- earnsOf -/
                  ∃ e20, xm_ld xm_st h13 0 q19 x1 = some e20 ∧
                  ∃ q21, xm_fld h13 a0 9 33 = some (.ref q21) ∧ /- purse1 -/
                  (if (9999 : Int32) < ((e7 - (c3 + (0 : Int32))) + e20) then
                    ∃ h22, xm_sto h13 0 q21 x1 (9999 : Int32) = some h22 ∧
                    xm_L K sX9_goYear kX9_goYear 4 [some (.ref a0), some (.int (x1 + (1 : Int32))), none, none] [] h22 P
                  else
                    ∃ h23, xm_sto h13 0 q21 x1 ((e7 - (c3 + (0 : Int32))) + e20) = some h23 ∧
                    xm_L K sX9_goYear kX9_goYear 4 [some (.ref a0), some (.int (x1 + (1 : Int32))), none, none] [] h23 P))
              else
                (if (e7 - (c3 + (0 : Int32))) < 0 then
                  ∃ q24, xm_fld h11 a0 9 8 = some (.ref q24) ∧ /- earnsOf -/
                  ∃ e25, xm_ld xm_st h11 0 q24 x1 = some e25 ∧
                  ∃ q26, xm_fld h11 a0 9 33 = some (.ref q26) ∧ /- purse1 -/
                  (if (9999 : Int32) < ((0 : Int32) + e25) then
                    ∃ h27, xm_sto h11 0 q26 x1 (9999 : Int32) = some h27 ∧
                    xm_L K sX9_goYear kX9_goYear 4 [some (.ref a0), some (.int (x1 + (1 : Int32))), none, none] [] h27 P
                  else
                    ∃ h28, xm_sto h11 0 q26 x1 ((0 : Int32) + e25) = some h28 ∧
                    xm_L K sX9_goYear kX9_goYear 4 [some (.ref a0), some (.int (x1 + (1 : Int32))), none, none] [] h28 P)
                else
                  ∃ q29, xm_fld h11 a0 9 8 = some (.ref q29) ∧ /- earnsOf -/
                  ∃ e30, xm_ld xm_st h11 0 q29 x1 = some e30 ∧
                  ∃ q31, xm_fld h11 a0 9 33 = some (.ref q31) ∧ /- purse1 -/
                  (if (9999 : Int32) < ((e7 - (c3 + (0 : Int32))) + e30) then
                    ∃ h32, xm_sto h11 0 q31 x1 (9999 : Int32) = some h32 ∧
                    xm_L K sX9_goYear kX9_goYear 4 [some (.ref a0), some (.int (x1 + (1 : Int32))), none, none] [] h32 P
                  else
                    ∃ h33, xm_sto h11 0 q31 x1 ((e7 - (c3 + (0 : Int32))) + e30) = some h33 ∧
                    xm_L K sX9_goYear kX9_goYear 4 [some (.ref a0), some (.int (x1 + (1 : Int32))), none, none] [] h33 P))))
          else
            ∃ f34, xm_fld h4 a0 9 36 = some (.int f34) ∧ /- snow1 -/
            ¬ (2 : Int32) = 0 ∧
            ∃ q35, xm_fld h4 a0 9 33 = some (.ref q35) ∧ /- purse1 -/
            ∃ e36, xm_ld xm_st h4 0 q35 x1 = some e36 ∧
            ∃ f37, xm_fld h4 a0 9 42 = some (.int f37) ∧ /- paid1 -/
            xm_Call K sX9_shareOf 9 [.ref a0, .int x1] h4 (xm_pi fun c39 h38 =>
              ∃ h40, xm_put h38 a0 9 42 (.int (f37 + c39)) = some h40 ∧ /- paid1 -/
              (if (e36 - (c3 + (f34 / (2 : Int32)))) < 0 then
                ∃ f41, xm_fld h40 a0 9 43 = some (.int f41) ∧ /- lacking1 -/
                ∃ h42, xm_put h40 a0 9 43 (.int (f41 - (e36 - (c3 + (f34 / (2 : Int32)))))) = some h42 ∧ /- lacking1 -/
                (if (e36 - (c3 + (f34 / (2 : Int32)))) < 0 then
                  ∃ q43, xm_fld h42 a0 9 8 = some (.ref q43) ∧ /- earnsOf -/
                  ∃ e44, xm_ld xm_st h42 0 q43 x1 = some e44 ∧
                  ∃ q45, xm_fld h42 a0 9 33 = some (.ref q45) ∧ /- purse1 -/
                  (if (9999 : Int32) < ((0 : Int32) + e44) then
                    ∃ h46, xm_sto h42 0 q45 x1 (9999 : Int32) = some h46 ∧
                    xm_L K sX9_goYear kX9_goYear 4 [some (.ref a0), some (.int (x1 + (1 : Int32))), none, none] [] h46 P
                  else
                    ∃ h47, xm_sto h42 0 q45 x1 ((0 : Int32) + e44) = some h47 ∧
                    xm_L K sX9_goYear kX9_goYear 4 [some (.ref a0), some (.int (x1 + (1 : Int32))), none, none] [] h47 P)
                else
                  ∃ q48, xm_fld h42 a0 9 8 = some (.ref q48) ∧ /- earnsOf -/
                  ∃ e49, xm_ld xm_st h42 0 q48 x1 = some e49 ∧
                  ∃ q50, xm_fld h42 a0 9 33 = some (.ref q50) ∧ /- purse1 -/
                  (if (9999 : Int32) < ((e36 - (c3 + (f34 / (2 : Int32)))) + e49) then
                    ∃ h51, xm_sto h42 0 q50 x1 (9999 : Int32) = some h51 ∧
                    xm_L K sX9_goYear kX9_goYear 4 [some (.ref a0), some (.int (x1 + (1 : Int32))), none, none] [] h51 P
                  else
                    ∃ h52, xm_sto h42 0 q50 x1 ((e36 - (c3 + (f34 / (2 : Int32)))) + e49) = some h52 ∧
                    xm_L K sX9_goYear kX9_goYear 4 [some (.ref a0), some (.int (x1 + (1 : Int32))), none, none] [] h52 P))
              else
                (if (e36 - (c3 + (f34 / (2 : Int32)))) < 0 then
                  ∃ q53, xm_fld h40 a0 9 8 = some (.ref q53) ∧ /- earnsOf -/
                  ∃ e54, xm_ld xm_st h40 0 q53 x1 = some e54 ∧
                  ∃ q55, xm_fld h40 a0 9 33 = some (.ref q55) ∧ /- purse1 -/
                  (if (9999 : Int32) < ((0 : Int32) + e54) then
                    ∃ h56, xm_sto h40 0 q55 x1 (9999 : Int32) = some h56 ∧
                    xm_L K sX9_goYear kX9_goYear 4 [some (.ref a0), some (.int (x1 + (1 : Int32))), none, none] [] h56 P
                  else
                    ∃ h57, xm_sto h40 0 q55 x1 ((0 : Int32) + e54) = some h57 ∧
                    xm_L K sX9_goYear kX9_goYear 4 [some (.ref a0), some (.int (x1 + (1 : Int32))), none, none] [] h57 P)
                else
                  ∃ q58, xm_fld h40 a0 9 8 = some (.ref q58) ∧ /- earnsOf -/
                  ∃ e59, xm_ld xm_st h40 0 q58 x1 = some e59 ∧
                  ∃ q60, xm_fld h40 a0 9 33 = some (.ref q60) ∧ /- purse1 -/
                  (if (9999 : Int32) < ((e36 - (c3 + (f34 / (2 : Int32)))) + e59) then
                    ∃ h61, xm_sto h40 0 q60 x1 (9999 : Int32) = some h61 ∧
                    xm_L K sX9_goYear kX9_goYear 4 [some (.ref a0), some (.int (x1 + (1 : Int32))), none, none] [] h61 P
                  else
                    ∃ h62, xm_sto h40 0 q60 x1 ((e36 - (c3 + (f34 / (2 : Int32)))) + e59) = some h62 ∧
                    xm_L K sX9_goYear kX9_goYear 4 [some (.ref a0), some (.int (x1 + (1 : Int32))), none, none] [] h62 P)))))))
    else
      xm_L K sX9_goYear kX9_goYear 71 [some (.ref a0), some (.int (0 : Int32)), none, none] [] h P)) :
    xm_L K sX9_goYear kX9_goYear 4 [some (.ref a0), some (.int x1), none, none] [] h P :=
  xm_run (fun _ _ h => h) oX9_goYear 63 4 0 0 [some (.ref a0), some (.int x1), none, none] [] h H

set_option maxRecDepth 100000 in
set_option maxHeartbeats 4000000 in
theorem xX9_goYear_71 {K : Nat} {h : xm_H} {P : Option Value → xm_H → Prop} {a0 : Nat} {x1 : Int32} (H :
    ∃ f1, xm_fld h a0 9 1 = some (.int f1) ∧ /- many -/
    (if x1 < f1 then
      ∃ q2, xm_fld h a0 9 34 = some (.ref q2) ∧ /- age1 -/
      ∃ e3, xm_ld xm_st h 0 q2 x1 = some e3 ∧
      (if e3 < (99 : Int32) then
        ∃ q4, xm_fld h a0 9 34 = some (.ref q4) ∧ /- age1 -/
        ∃ e5, xm_ld xm_st h 0 q4 x1 = some e5 ∧
        ∃ h6, xm_sto h 0 q4 x1 (e5 + (1 : Int32)) = some h6 ∧
        xm_L K sX9_goYear kX9_goYear 71 [some (.ref a0), some (.int (x1 + (1 : Int32))), none, none] [] h6 P
      else
        xm_L K sX9_goYear kX9_goYear 71 [some (.ref a0), some (.int (x1 + (1 : Int32))), none, none] [] h P)
    else
      ∃ f7, xm_fld h a0 9 37 = some (.int f7) ∧ /- year1 -/
      (if f7 < (199 : Int32) then
        ∃ f8, xm_fld h a0 9 37 = some (.int f8) ∧ /- year1 -/
        ∃ h9, xm_put h a0 9 37 (.int (f8 + (1 : Int32))) = some h9 ∧ /- year1 -/
        xm_Call K sX9_laySnow 9 [.ref a0] h9 (xm_pv fun h10 =>
          P none h10)
      else
        xm_Call K sX9_laySnow 9 [.ref a0] h (xm_pv fun h11 =>
          P none h11)))) :
    xm_L K sX9_goYear kX9_goYear 71 [some (.ref a0), some (.int x1), none, none] [] h P :=
  xm_run (fun _ _ h => h) oX9_goYear 21 71 0 0 [some (.ref a0), some (.int x1), none, none] [] h H

def kX9_goYears : List xm_I := [
  i_0 0 (.aload_n 0) 1 none,
  i_v 1 (.iconst 0) 1 none 0 [],
  i_f 2 (.putfield 329) 3 none 9 42 [967] 0,
  i_0 5 (.aload_n 0) 1 none,
  i_v 6 (.iconst 0) 1 none 0 [],
  i_f 7 (.putfield 332) 3 none 9 43 [968] 0,
  i_v 10 (.iconst 0) 1 none 0 [],
  i_0 11 (.istore_n 2) 1 none,
  i_0 12 (.iload_n 2) 1 (some [true, true, true]),
  i_0 13 (.iload_n 1) 1 none,
  i_j 14 (.if_icmp .ge 13) 3 none 15,
  i_0 17 (.aload_n 0) 1 none,
  i_m 18 (.invokevirtual 335) 3 none 0 9 [1373, 1375, 77, 117, 1376] 0 sX9_goYear,
  i_v 21 (.iinc 2 1) 3 none 1 [],
  i_j 24 (.goto (-12)) 3 none 8,
  i_0 27 (.return_) 1 none]
set_option maxRecDepth 100000 in
theorem oX9_goYears : xm_ok sX9_goYears sX9_goYears.1.cls kX9_goYears = true := by decide +kernel
set_option maxRecDepth 100000 in
set_option maxHeartbeats 4000000 in
theorem xX9_goYears_0 {K : Nat} {h : xm_H} {P : Option Value → xm_H → Prop} {a0 : Nat} {x1 : Int32} (H :
    ∃ h1, xm_put h a0 9 42 (.int (0 : Int32)) = some h1 ∧ /- paid1 -/
    ∃ h2, xm_put h1 a0 9 43 (.int (0 : Int32)) = some h2 ∧ /- lacking1 -/
    xm_L K sX9_goYears kX9_goYears 8 [some (.ref a0), some (.int x1), some (.int (0 : Int32))] [] h2 P) :
    xm_L K sX9_goYears kX9_goYears 0 [some (.ref a0), some (.int x1), none] [] h P :=
  xm_run (fun _ _ h => h) oX9_goYears 9 0 0 0 [some (.ref a0), some (.int x1), none] [] h H
set_option maxRecDepth 100000 in
theorem eX9_goYears {K K' : Nat} (hK : K < K') {h : xm_H} {P : Option Value → xm_H → Prop} {a0 : Nat} {x1 : Int32} (hr : ∃ fs, h[a0]? = some (.inr (9, fs))) (H :
    ∃ h1, xm_put h a0 9 42 (.int (0 : Int32)) = some h1 ∧ /- paid1 -/
    ∃ h2, xm_put h1 a0 9 43 (.int (0 : Int32)) = some h2 ∧ /- lacking1 -/
    xm_L K sX9_goYears kX9_goYears 8 [some (.ref a0), some (.int x1), some (.int (0 : Int32))] [] h2 P) :
    xm_Call K' sX9_goYears 9 [.ref a0, .int x1] h P :=
  xm_call_of (C := kX9_goYears) hK (by decide +kernel) rfl (Nat.le_of_ble_eq_true rfl) (Or.inr ⟨a0, hr.choose, rfl, hr.choose_spec⟩) (xX9_goYears_0 H)

set_option maxRecDepth 100000 in
set_option maxHeartbeats 4000000 in
theorem xX9_goYears_8 {K : Nat} {h : xm_H} {P : Option Value → xm_H → Prop} {a0 : Nat} {x1 : Int32} {x2 : Int32} (H :
    (if x2 < x1 then
      xm_Call K sX9_goYear 9 [.ref a0] h (xm_pv fun h1 =>
        xm_L K sX9_goYears kX9_goYears 8 [some (.ref a0), some (.int x1), some (.int (x2 + (1 : Int32)))] [] h1 P)
    else
      P none h)) :
    xm_L K sX9_goYears kX9_goYears 8 [some (.ref a0), some (.int x1), some (.int x2)] [] h P :=
  xm_run (fun _ _ h => h) oX9_goYears 8 8 0 0 [some (.ref a0), some (.int x1), some (.int x2)] [] h H

def kX9_later : List xm_I := [
  i_0 0 (.iload_n 1) 1 none,
  i_v 1 (.iconst 0) 1 none 0 [],
  i_v 2 (.bipush 60) 2 none 60 [],
  i_m 4 (.invokestatic 128) 3 none 3 99 [1106, 1107, 117, 1108] 0 sX9_in,
  i_j 7 (.ifCond .eq 32) 3 none 20,
  i_0 10 (.iload_n 3) 1 none,
  i_v 11 (.iconst 0) 1 none 0 [],
  i_v 12 (.iconst 4) 1 none 4 [],
  i_m 13 (.invokestatic 128) 3 none 3 99 [1106, 1107, 117, 1108] 0 sX9_in,
  i_j 16 (.ifCond .eq 23) 3 none 20,
  i_0 19 (.iload_n 3) 1 none,
  i_v 20 (.iconst 2) 1 none 2 [],
  i_j 21 (.if_icmp .ge 14) 3 none 18,
  i_0 24 (.aload_n 0) 1 none,
  i_0 25 (.iload_n 2) 1 none,
  i_m 26 (.invokevirtual 156) 3 none 1 9 [1141, 1143, 37, 117, 1144] 0 sX9_isOne,
  i_j 29 (.ifCond .eq 10) 3 none 20,
  i_j 32 (.goto 9) 3 none 22,
  i_0 35 (.iload_n 2) 1 none,
  i_j 36 (.ifCond .eq 5) 3 none 22,
  i_v 39 (.iconst (-1)) 1 none (-1) [],
  i_0 40 (.ireturn) 1 none,
  i_0 41 (.aload_n 0) 1 none,
  i_m 42 (.invokevirtual 267) 3 none 0 9 [1227, 1229, 53, 117, 1230] 0 sX9_layNow,
  i_0 45 (.aload_n 0) 1 none,
  i_0 46 (.iload_n 1) 1 none,
  i_m 47 (.invokevirtual 338) 3 none 1 9 [1369, 1371, 76, 117, 1372] 0 sX9_goYears,
  i_0 50 (.iload_n 3) 1 none,
  i_s 51 (.tableswitch 53 0 3 #[29, 36, 43, 48]) 29 none 45 [(0, 29), (1, 34), (2, 39), (3, 42)],
  i_0 80 (.aload_n 0) 1 none,
  i_f 81 (.getfield 81) 3 none 9 33 [958] 1,
  i_0 84 (.iload_n 2) 1 none,
  i_0 85 (.iaload) 1 none,
  i_0 86 (.ireturn) 1 none,
  i_0 87 (.aload_n 0) 1 none,
  i_f 88 (.getfield 84) 3 none 9 34 [959] 1,
  i_0 91 (.iload_n 2) 1 none,
  i_0 92 (.iaload) 1 none,
  i_0 93 (.ireturn) 1 none,
  i_0 94 (.aload_n 0) 1 none,
  i_f 95 (.getfield 329) 3 none 9 42 [967] 0,
  i_0 98 (.ireturn) 1 none,
  i_0 99 (.aload_n 0) 1 none,
  i_f 100 (.getfield 332) 3 none 9 43 [968] 0,
  i_0 103 (.ireturn) 1 none,
  i_0 104 (.aload_n 0) 1 none,
  i_m 105 (.invokevirtual 276) 3 none 0 9 [1274, 1276, 63, 117, 1277] 0 sX9_theBill,
  i_0 108 (.ireturn) 1 none]
set_option maxRecDepth 100000 in
theorem oX9_later : xm_ok sX9_later sX9_later.1.cls kX9_later = true := by decide +kernel
set_option maxRecDepth 100000 in
set_option maxHeartbeats 4000000 in
theorem xX9_later_0 {K : Nat} {h : xm_H} {P : Option Value → xm_H → Prop} {a0 : Nat} {x1 : Int32} {x2 : Int32} {x3 : Int32} (H :
    xm_Call K sX9_in 99 [.int x1, .int (0 : Int32), .int (60 : Int32)] h (xm_pi fun c2 h1 =>
      (if c2 = 0 then
        P (some (.int (-1 : Int32))) h1
      else
        xm_Call K sX9_in 99 [.int x3, .int (0 : Int32), .int (4 : Int32)] h1 (xm_pi fun c4 h3 =>
          (if c4 = 0 then
            P (some (.int (-1 : Int32))) h3
          else
            (if x3 < (2 : Int32) then
              xm_Call K sX9_isOne 9 [.ref a0, .int x2] h3 (xm_pi fun c6 h5 =>
                (if c6 = 0 then
                  P (some (.int (-1 : Int32))) h5
                else
                  xm_Call K sX9_layNow 9 [.ref a0] h5 (xm_pv fun h7 =>
                    xm_Call K sX9_goYears 9 [.ref a0, .int x1] h7 (xm_pv fun h8 =>
                      (if x3 = 0 then
                        ∃ q9, xm_fld h8 a0 9 33 = some (.ref q9) ∧ /- purse1 -/
                        ∃ e10, xm_ld xm_st h8 0 q9 x2 = some e10 ∧
                        P (some (.int e10)) h8
                      else
                      (if x3 = 1 then
                        ∃ q11, xm_fld h8 a0 9 34 = some (.ref q11) ∧ /- age1 -/
                        ∃ e12, xm_ld xm_st h8 0 q11 x2 = some e12 ∧
                        P (some (.int e12)) h8
                      else
                      (if x3 = 2 then
                        ∃ f13, xm_fld h8 a0 9 42 = some (.int f13) ∧ /- paid1 -/
                        P (some (.int f13)) h8
                      else
                      (if x3 = 3 then
                        ∃ f14, xm_fld h8 a0 9 43 = some (.int f14) ∧ /- lacking1 -/
                        P (some (.int f14)) h8
                      else
                      xm_Call K sX9_theBill 9 [.ref a0] h8 (xm_pi fun c16 h15 =>
                        P (some (.int c16)) h15)))))))))
            else
              (if x2 = 0 then
                xm_Call K sX9_layNow 9 [.ref a0] h3 (xm_pv fun h17 =>
                  xm_Call K sX9_goYears 9 [.ref a0, .int x1] h17 (xm_pv fun h18 =>
                    (if x3 = 0 then
                      ∃ q19, xm_fld h18 a0 9 33 = some (.ref q19) ∧ /- purse1 -/
                      ∃ e20, xm_ld xm_st h18 0 q19 x2 = some e20 ∧
                      P (some (.int e20)) h18
                    else
                    (if x3 = 1 then
                      ∃ q21, xm_fld h18 a0 9 34 = some (.ref q21) ∧ /- age1 -/
                      ∃ e22, xm_ld xm_st h18 0 q21 x2 = some e22 ∧
                      P (some (.int e22)) h18
                    else
                    (if x3 = 2 then
                      ∃ f23, xm_fld h18 a0 9 42 = some (.int f23) ∧ /- paid1 -/
                      P (some (.int f23)) h18
                    else
                    (if x3 = 3 then
                      ∃ f24, xm_fld h18 a0 9 43 = some (.int f24) ∧ /- lacking1 -/
                      P (some (.int f24)) h18
                    else
                    xm_Call K sX9_theBill 9 [.ref a0] h18 (xm_pi fun c26 h25 =>
                      P (some (.int c26)) h25)))))))
              else
                P (some (.int (-1 : Int32))) h3))))))) :
    xm_L K sX9_later kX9_later 0 [some (.ref a0), some (.int x1), some (.int x2), some (.int x3)] [] h P :=
  xm_run (fun _ _ h => h) oX9_later 31 0 0 0 [some (.ref a0), some (.int x1), some (.int x2), some (.int x3)] [] h H
set_option maxRecDepth 100000 in
theorem eX9_later {K K' : Nat} (hK : K < K') {h : xm_H} {P : Option Value → xm_H → Prop} {a0 : Nat} {x1 : Int32} {x2 : Int32} {x3 : Int32} (hr : ∃ fs, h[a0]? = some (.inr (9, fs))) (H :
    xm_Call K sX9_in 99 [.int x1, .int (0 : Int32), .int (60 : Int32)] h (xm_pi fun c2 h1 =>
      (if c2 = 0 then
        P (some (.int (-1 : Int32))) h1
      else
        xm_Call K sX9_in 99 [.int x3, .int (0 : Int32), .int (4 : Int32)] h1 (xm_pi fun c4 h3 =>
          (if c4 = 0 then
            P (some (.int (-1 : Int32))) h3
          else
            (if x3 < (2 : Int32) then
              xm_Call K sX9_isOne 9 [.ref a0, .int x2] h3 (xm_pi fun c6 h5 =>
                (if c6 = 0 then
                  P (some (.int (-1 : Int32))) h5
                else
                  xm_Call K sX9_layNow 9 [.ref a0] h5 (xm_pv fun h7 =>
                    xm_Call K sX9_goYears 9 [.ref a0, .int x1] h7 (xm_pv fun h8 =>
                      (if x3 = 0 then
                        ∃ q9, xm_fld h8 a0 9 33 = some (.ref q9) ∧ /- purse1 -/
                        ∃ e10, xm_ld xm_st h8 0 q9 x2 = some e10 ∧
                        P (some (.int e10)) h8
                      else
                      (if x3 = 1 then
                        ∃ q11, xm_fld h8 a0 9 34 = some (.ref q11) ∧ /- age1 -/
                        ∃ e12, xm_ld xm_st h8 0 q11 x2 = some e12 ∧
                        P (some (.int e12)) h8
                      else
                      (if x3 = 2 then
                        ∃ f13, xm_fld h8 a0 9 42 = some (.int f13) ∧ /- paid1 -/
                        P (some (.int f13)) h8
                      else
                      (if x3 = 3 then
                        ∃ f14, xm_fld h8 a0 9 43 = some (.int f14) ∧ /- lacking1 -/
                        P (some (.int f14)) h8
                      else
                      xm_Call K sX9_theBill 9 [.ref a0] h8 (xm_pi fun c16 h15 =>
                        P (some (.int c16)) h15)))))))))
            else
              (if x2 = 0 then
                xm_Call K sX9_layNow 9 [.ref a0] h3 (xm_pv fun h17 =>
                  xm_Call K sX9_goYears 9 [.ref a0, .int x1] h17 (xm_pv fun h18 =>
                    (if x3 = 0 then
                      ∃ q19, xm_fld h18 a0 9 33 = some (.ref q19) ∧ /- purse1 -/
                      ∃ e20, xm_ld xm_st h18 0 q19 x2 = some e20 ∧
                      P (some (.int e20)) h18
                    else
                    (if x3 = 1 then
                      ∃ q21, xm_fld h18 a0 9 34 = some (.ref q21) ∧ /- age1 -/
                      ∃ e22, xm_ld xm_st h18 0 q21 x2 = some e22 ∧
                      P (some (.int e22)) h18
                    else
                    (if x3 = 2 then
                      ∃ f23, xm_fld h18 a0 9 42 = some (.int f23) ∧ /- paid1 -/
                      P (some (.int f23)) h18
                    else
                    (if x3 = 3 then
                      ∃ f24, xm_fld h18 a0 9 43 = some (.int f24) ∧ /- lacking1 -/
                      P (some (.int f24)) h18
                    else
                    xm_Call K sX9_theBill 9 [.ref a0] h18 (xm_pi fun c26 h25 =>
                      P (some (.int c26)) h25)))))))
              else
                P (some (.int (-1 : Int32))) h3))))))) :
    xm_Call K' sX9_later 9 [.ref a0, .int x1, .int x2, .int x3] h P :=
  xm_call_of (C := kX9_later) hK (by decide +kernel) rfl (Nat.le_of_ble_eq_true rfl) (Or.inr ⟨a0, hr.choose, rfl, hr.choose_spec⟩) (xX9_later_0 H)

def kX9_broke : List xm_I := [
  i_0 0 (.aload_n 0) 1 none,
  i_0 1 (.iload_n 1) 1 none,
  i_m 2 (.invokevirtual 156) 3 none 1 9 [1141, 1143, 37, 117, 1144] 0 sX9_isOne,
  i_j 5 (.ifCond .ne 5) 3 none 6,
  i_v 8 (.iconst (-1)) 1 none (-1) [],
  i_0 9 (.ireturn) 1 none,
  i_0 10 (.aload_n 0) 1 none,
  i_m 11 (.invokevirtual 267) 3 none 0 9 [1227, 1229, 53, 117, 1230] 0 sX9_layNow,
  i_v 14 (.iconst 0) 1 none 0 [],
  i_0 15 (.istore_n 2) 1 none,
  i_0 16 (.iload_n 2) 1 (some [true, true, true]),
  i_v 17 (.bipush 60) 2 none 60 [],
  i_j 19 (.if_icmp .gt 24) 3 none 24,
  i_0 22 (.aload_n 0) 1 none,
  i_f 23 (.getfield 81) 3 none 9 33 [958] 1,
  i_0 26 (.iload_n 1) 1 none,
  i_0 27 (.iaload) 1 none,
  i_j 28 (.ifCond .ne 5) 3 none 20,
  i_0 31 (.iload_n 2) 1 none,
  i_0 32 (.ireturn) 1 none,
  i_0 33 (.aload_n 0) 1 none,
  i_m 34 (.invokevirtual 335) 3 none 0 9 [1373, 1375, 77, 117, 1376] 0 sX9_goYear,
  i_v 37 (.iinc 2 1) 3 none 1 [],
  i_j 40 (.goto (-24)) 3 none 10,
  i_v 43 (.bipush (-2)) 2 none (-2) [],
  i_0 45 (.ireturn) 1 none]
set_option maxRecDepth 100000 in
theorem oX9_broke : xm_ok sX9_broke sX9_broke.1.cls kX9_broke = true := by decide +kernel
set_option maxRecDepth 100000 in
set_option maxHeartbeats 4000000 in
theorem xX9_broke_0 {K : Nat} {h : xm_H} {P : Option Value → xm_H → Prop} {a0 : Nat} {x1 : Int32} (H :
    xm_Call K sX9_isOne 9 [.ref a0, .int x1] h (xm_pi fun c2 h1 =>
      (if c2 = 0 then
        P (some (.int (-1 : Int32))) h1
      else
        xm_Call K sX9_layNow 9 [.ref a0] h1 (xm_pv fun h3 =>
          xm_L K sX9_broke kX9_broke 10 [some (.ref a0), some (.int x1), some (.int (0 : Int32))] [] h3 P)))) :
    xm_L K sX9_broke kX9_broke 0 [some (.ref a0), some (.int x1), none] [] h P :=
  xm_run (fun _ _ h => h) oX9_broke 9 0 0 0 [some (.ref a0), some (.int x1), none] [] h H
set_option maxRecDepth 100000 in
theorem eX9_broke {K K' : Nat} (hK : K < K') {h : xm_H} {P : Option Value → xm_H → Prop} {a0 : Nat} {x1 : Int32} (hr : ∃ fs, h[a0]? = some (.inr (9, fs))) (H :
    xm_Call K sX9_isOne 9 [.ref a0, .int x1] h (xm_pi fun c2 h1 =>
      (if c2 = 0 then
        P (some (.int (-1 : Int32))) h1
      else
        xm_Call K sX9_layNow 9 [.ref a0] h1 (xm_pv fun h3 =>
          xm_L K sX9_broke kX9_broke 10 [some (.ref a0), some (.int x1), some (.int (0 : Int32))] [] h3 P)))) :
    xm_Call K' sX9_broke 9 [.ref a0, .int x1] h P :=
  xm_call_of (C := kX9_broke) hK (by decide +kernel) rfl (Nat.le_of_ble_eq_true rfl) (Or.inr ⟨a0, hr.choose, rfl, hr.choose_spec⟩) (xX9_broke_0 H)

set_option maxRecDepth 100000 in
set_option maxHeartbeats 4000000 in
theorem xX9_broke_10 {K : Nat} {h : xm_H} {P : Option Value → xm_H → Prop} {a0 : Nat} {x1 : Int32} {x2 : Int32} (H :
    (if (60 : Int32) < x2 then
      P (some (.int (-2 : Int32))) h
    else
      ∃ q1, xm_fld h a0 9 33 = some (.ref q1) ∧ /- purse1 -/
      ∃ e2, xm_ld xm_st h 0 q1 x1 = some e2 ∧
      (if e2 = 0 then
        P (some (.int x2)) h
      else
        xm_Call K sX9_goYear 9 [.ref a0] h (xm_pv fun h3 =>
          xm_L K sX9_broke kX9_broke 10 [some (.ref a0), some (.int x1), some (.int (x2 + (1 : Int32)))] [] h3 P)))) :
    xm_L K sX9_broke kX9_broke 10 [some (.ref a0), some (.int x1), some (.int x2)] [] h P :=
  xm_run (fun _ _ h => h) oX9_broke 13 10 0 0 [some (.ref a0), some (.int x1), some (.int x2)] [] h H

def kX9_purseWith : List xm_I := [
  i_0 0 (.aload_n 0) 1 none,
  i_m 1 (.invokevirtual 267) 3 none 0 9 [1227, 1229, 53, 117, 1230] 0 sX9_layNow,
  i_0 4 (.aload_n 0) 1 none,
  i_f 5 (.getfield 75) 3 none 9 31 [956] 1,
  i_0 8 (.iload_n 1) 1 none,
  i_0 9 (.iload_n 2) 1 none,
  i_0 10 (.iastore) 1 none,
  i_0 11 (.aload_n 0) 1 none,
  i_0 12 (.iload_n 3) 1 none,
  i_m 13 (.invokevirtual 338) 3 none 1 9 [1369, 1371, 76, 117, 1372] 0 sX9_goYears,
  i_0 16 (.aload_n 0) 1 none,
  i_f 17 (.getfield 81) 3 none 9 33 [958] 1,
  i_0 20 (.iload_n 1) 1 none,
  i_0 21 (.iaload) 1 none,
  i_0 22 (.ireturn) 1 none]
set_option maxRecDepth 100000 in
theorem oX9_purseWith : xm_ok sX9_purseWith sX9_purseWith.1.cls kX9_purseWith = true := by decide +kernel
set_option maxRecDepth 100000 in
set_option maxHeartbeats 4000000 in
theorem xX9_purseWith_0 {K : Nat} {h : xm_H} {P : Option Value → xm_H → Prop} {a0 : Nat} {x1 : Int32} {x2 : Int32} {x3 : Int32} (H :
    xm_Call K sX9_layNow 9 [.ref a0] h (xm_pv fun h1 =>
      ∃ q2, xm_fld h1 a0 9 31 = some (.ref q2) ∧ /- habit1 -/
      ∃ h3, xm_sto h1 0 q2 x1 x2 = some h3 ∧
      xm_Call K sX9_goYears 9 [.ref a0, .int x3] h3 (xm_pv fun h4 =>
        ∃ q5, xm_fld h4 a0 9 33 = some (.ref q5) ∧ /- purse1 -/
        ∃ e6, xm_ld xm_st h4 0 q5 x1 = some e6 ∧
        P (some (.int e6)) h4))) :
    xm_L K sX9_purseWith kX9_purseWith 0 [some (.ref a0), some (.int x1), some (.int x2), some (.int x3)] [] h P :=
  xm_run (fun _ _ h => h) oX9_purseWith 16 0 0 0 [some (.ref a0), some (.int x1), some (.int x2), some (.int x3)] [] h H
set_option maxRecDepth 100000 in
theorem eX9_purseWith {K K' : Nat} (hK : K < K') {h : xm_H} {P : Option Value → xm_H → Prop} {a0 : Nat} {x1 : Int32} {x2 : Int32} {x3 : Int32} (hr : ∃ fs, h[a0]? = some (.inr (9, fs))) (H :
    xm_Call K sX9_layNow 9 [.ref a0] h (xm_pv fun h1 =>
      ∃ q2, xm_fld h1 a0 9 31 = some (.ref q2) ∧ /- habit1 -/
      ∃ h3, xm_sto h1 0 q2 x1 x2 = some h3 ∧
      xm_Call K sX9_goYears 9 [.ref a0, .int x3] h3 (xm_pv fun h4 =>
        ∃ q5, xm_fld h4 a0 9 33 = some (.ref q5) ∧ /- purse1 -/
        ∃ e6, xm_ld xm_st h4 0 q5 x1 = some e6 ∧
        P (some (.int e6)) h4))) :
    xm_Call K' sX9_purseWith 9 [.ref a0, .int x1, .int x2, .int x3] h P :=
  xm_call_of (C := kX9_purseWith) hK (by decide +kernel) rfl (Nat.le_of_ble_eq_true rfl) (Or.inr ⟨a0, hr.choose, rfl, hr.choose_spec⟩) (xX9_purseWith_0 H)

def kX9_thrift : List xm_I := [
  i_0 0 (.aload_n 0) 1 none,
  i_0 1 (.iload_n 1) 1 none,
  i_m 2 (.invokevirtual 156) 3 none 1 9 [1141, 1143, 37, 117, 1144] 0 sX9_isOne,
  i_j 5 (.ifCond .eq 22) 3 none 14,
  i_0 8 (.iload_n 2) 1 none,
  i_v 9 (.iconst 0) 1 none 0 [],
  i_v 10 (.bipush 40) 2 none 40 [],
  i_m 12 (.invokestatic 128) 3 none 3 99 [1106, 1107, 117, 1108] 0 sX9_in,
  i_j 15 (.ifCond .eq 12) 3 none 14,
  i_0 18 (.iload_n 3) 1 none,
  i_v 19 (.iconst 0) 1 none 0 [],
  i_v 20 (.iconst 1) 1 none 1 [],
  i_m 21 (.invokestatic 128) 3 none 3 99 [1106, 1107, 117, 1108] 0 sX9_in,
  i_j 24 (.ifCond .ne 5) 3 none 16,
  i_v 27 (.iconst (-1)) 1 none (-1) [],
  i_0 28 (.ireturn) 1 none,
  i_v 29 (.iconst 0) 1 none 0 [],
  i_0 30 (.istore 4) 2 none,
  i_0 32 (.aload_n 0) 1 none,
  i_0 33 (.iload_n 1) 1 none,
  i_v 34 (.iconst 0) 1 none 0 [],
  i_0 35 (.iload_n 2) 1 none,
  i_m 36 (.invokevirtual 341) 3 none 3 9 [1385, 1387, 78, 117, 1388] 0 sX9_purseWith,
  i_0 39 (.istore 5) 2 none,
  i_v 41 (.iconst 1) 1 none 1 [],
  i_0 42 (.istore 6) 2 none,
  i_0 44 (.iload 6) 2 (some [true, true, true, true, true, true, true, false]),
  i_v 46 (.iconst 4) 1 none 4 [],
  i_j 47 (.if_icmp .ge 37) 3 none 45,
  i_0 50 (.aload_n 0) 1 none,
  i_0 51 (.iload_n 1) 1 none,
  i_0 52 (.iload 6) 2 none,
  i_0 54 (.iload_n 2) 1 none,
  i_m 55 (.invokevirtual 341) 3 none 3 9 [1385, 1387, 78, 117, 1388] 0 sX9_purseWith,
  i_0 58 (.istore 7) 2 none,
  i_0 60 (.iload 7) 2 none,
  i_0 62 (.iload 5) 2 none,
  i_j 64 (.if_icmp .gt 6) 3 none 39,
  i_j 67 (.goto 11) 3 none 43,
  i_0 70 (.iload 6) 2 none,
  i_0 72 (.istore 4) 2 none,
  i_0 74 (.iload 7) 2 none,
  i_0 76 (.istore 5) 2 none,
  i_v 78 (.iinc 6 1) 3 none 1 [],
  i_j 81 (.goto (-37)) 3 none 26,
  i_0 84 (.iload_n 3) 1 none,
  i_j 85 (.ifCond .ne 8) 3 none 49,
  i_0 88 (.iload 4) 2 none,
  i_j 90 (.goto 5) 3 none 50,
  i_0 93 (.iload 5) 2 none,
  i_0 95 (.ireturn) 1 none]
set_option maxRecDepth 100000 in
theorem oX9_thrift : xm_ok sX9_thrift sX9_thrift.1.cls kX9_thrift = true := by decide +kernel
set_option maxRecDepth 100000 in
set_option maxHeartbeats 4000000 in
theorem xX9_thrift_0 {K : Nat} {h : xm_H} {P : Option Value → xm_H → Prop} {a0 : Nat} {x1 : Int32} {x2 : Int32} {x3 : Int32} (H :
    xm_Call K sX9_isOne 9 [.ref a0, .int x1] h (xm_pi fun c2 h1 =>
      (if c2 = 0 then
        P (some (.int (-1 : Int32))) h1
      else
        xm_Call K sX9_in 99 [.int x2, .int (0 : Int32), .int (40 : Int32)] h1 (xm_pi fun c4 h3 =>
          (if c4 = 0 then
            P (some (.int (-1 : Int32))) h3
          else
            xm_Call K sX9_in 99 [.int x3, .int (0 : Int32), .int (1 : Int32)] h3 (xm_pi fun c6 h5 =>
              (if c6 = 0 then
                P (some (.int (-1 : Int32))) h5
              else
                xm_Call K sX9_purseWith 9 [.ref a0, .int x1, .int (0 : Int32), .int x2] h5 (xm_pi fun c8 h7 =>
                  xm_L K sX9_thrift kX9_thrift 26 [some (.ref a0), some (.int x1), some (.int x2), some (.int x3), some (.int (0 : Int32)), some (.int c8), some (.int (1 : Int32)), none] [] h7 P)))))))) :
    xm_L K sX9_thrift kX9_thrift 0 [some (.ref a0), some (.int x1), some (.int x2), some (.int x3), none, none, none, none] [] h P :=
  xm_run (fun _ _ h => h) oX9_thrift 25 0 0 0 [some (.ref a0), some (.int x1), some (.int x2), some (.int x3), none, none, none, none] [] h H
set_option maxRecDepth 100000 in
theorem eX9_thrift {K K' : Nat} (hK : K < K') {h : xm_H} {P : Option Value → xm_H → Prop} {a0 : Nat} {x1 : Int32} {x2 : Int32} {x3 : Int32} (hr : ∃ fs, h[a0]? = some (.inr (9, fs))) (H :
    xm_Call K sX9_isOne 9 [.ref a0, .int x1] h (xm_pi fun c2 h1 =>
      (if c2 = 0 then
        P (some (.int (-1 : Int32))) h1
      else
        xm_Call K sX9_in 99 [.int x2, .int (0 : Int32), .int (40 : Int32)] h1 (xm_pi fun c4 h3 =>
          (if c4 = 0 then
            P (some (.int (-1 : Int32))) h3
          else
            xm_Call K sX9_in 99 [.int x3, .int (0 : Int32), .int (1 : Int32)] h3 (xm_pi fun c6 h5 =>
              (if c6 = 0 then
                P (some (.int (-1 : Int32))) h5
              else
                xm_Call K sX9_purseWith 9 [.ref a0, .int x1, .int (0 : Int32), .int x2] h5 (xm_pi fun c8 h7 =>
                  xm_L K sX9_thrift kX9_thrift 26 [some (.ref a0), some (.int x1), some (.int x2), some (.int x3), some (.int (0 : Int32)), some (.int c8), some (.int (1 : Int32)), none] [] h7 P)))))))) :
    xm_Call K' sX9_thrift 9 [.ref a0, .int x1, .int x2, .int x3] h P :=
  xm_call_of (C := kX9_thrift) hK (by decide +kernel) rfl (Nat.le_of_ble_eq_true rfl) (Or.inr ⟨a0, hr.choose, rfl, hr.choose_spec⟩) (xX9_thrift_0 H)

set_option maxRecDepth 100000 in
set_option maxHeartbeats 4000000 in
theorem xX9_thrift_26 {K : Nat} {h : xm_H} {P : Option Value → xm_H → Prop} {a0 : Nat} {x1 : Int32} {x2 : Int32} {x3 : Int32} {x4 : Int32} {x5 : Int32} {x6 : Int32} (H :
    (if x6 < (4 : Int32) then
      xm_Call K sX9_purseWith 9 [.ref a0, .int x1, .int x6, .int x2] h (xm_pi fun c2 h1 =>
        (if x5 < c2 then
          xm_L K sX9_thrift kX9_thrift 26 [some (.ref a0), some (.int x1), some (.int x2), some (.int x3), some (.int x6), some (.int c2), some (.int (x6 + (1 : Int32))), none] [] h1 P
        else
          xm_L K sX9_thrift kX9_thrift 26 [some (.ref a0), some (.int x1), some (.int x2), some (.int x3), some (.int x4), some (.int x5), some (.int (x6 + (1 : Int32))), none] [] h1 P))
    else
      (if x3 = 0 then
        P (some (.int x4)) h
      else
        P (some (.int x5)) h))) :
    xm_L K sX9_thrift kX9_thrift 26 [some (.ref a0), some (.int x1), some (.int x2), some (.int x3), some (.int x4), some (.int x5), some (.int x6), none] [] h P :=
  xm_run (fun _ _ h => h) oX9_thrift 19 26 0 0 [some (.ref a0), some (.int x1), some (.int x2), some (.int x3), some (.int x4), some (.int x5), some (.int x6), none] [] h H

def kX9_rowFault : List xm_I := [
  i_0 0 (.aload_n 0) 1 none,
  i_f 1 (.getfield 108) 3 none 9 54 [979] 1,
  i_0 4 (.iload_n 1) 1 none,
  i_0 5 (.iaload) 1 none,
  i_v 6 (.iconst (-1)) 1 none (-1) [],
  i_j 7 (.if_icmp .ne 8) 3 none 8,
  i_v 10 (.bipush (-11)) 2 none (-11) [],
  i_j 12 (.goto 20) 3 none 17,
  i_0 15 (.aload_n 0) 1 none,
  i_f 16 (.getfield 108) 3 none 9 54 [979] 1,
  i_0 19 (.iload_n 1) 1 none,
  i_0 20 (.iaload) 1 none,
  i_v 21 (.bipush (-3)) 2 none (-3) [],
  i_j 23 (.if_icmp .ne 7) 3 none 16,
  i_v 26 (.iconst 0) 1 none 0 [],
  i_j 27 (.goto 5) 3 none 17,
  i_v 30 (.bipush (-12)) 2 none (-12) [],
  i_0 32 (.ireturn) 1 none]
set_option maxRecDepth 100000 in
theorem oX9_rowFault : xm_ok sX9_rowFault sX9_rowFault.1.cls kX9_rowFault = true := by decide +kernel
set_option maxRecDepth 100000 in
set_option maxHeartbeats 4000000 in
theorem xX9_rowFault_0 {K : Nat} {h : xm_H} {P : Option Value → xm_H → Prop} {a0 : Nat} {x1 : Int32} (H :
    ∃ q1, xm_fld h a0 9 54 = some (.ref q1) ∧ /- holds -/
    ∃ e2, xm_ld xm_st h 0 q1 x1 = some e2 ∧
    (if e2 = (-1 : Int32) then
      P (some (.int (-11 : Int32))) h
    else
      ∃ q3, xm_fld h a0 9 54 = some (.ref q3) ∧ /- holds -/
      ∃ e4, xm_ld xm_st h 0 q3 x1 = some e4 ∧
      (if e4 = (-3 : Int32) then
        P (some (.int (0 : Int32))) h
      else
        P (some (.int (-12 : Int32))) h))) :
    xm_L K sX9_rowFault kX9_rowFault 0 [some (.ref a0), some (.int x1)] [] h P :=
  xm_run (fun _ _ h => h) oX9_rowFault 16 0 0 0 [some (.ref a0), some (.int x1)] [] h H
set_option maxRecDepth 100000 in
theorem eX9_rowFault {K K' : Nat} (hK : K < K') {h : xm_H} {P : Option Value → xm_H → Prop} {a0 : Nat} {x1 : Int32} (hr : ∃ fs, h[a0]? = some (.inr (9, fs))) (H :
    ∃ q1, xm_fld h a0 9 54 = some (.ref q1) ∧ /- holds -/
    ∃ e2, xm_ld xm_st h 0 q1 x1 = some e2 ∧
    (if e2 = (-1 : Int32) then
      P (some (.int (-11 : Int32))) h
    else
      ∃ q3, xm_fld h a0 9 54 = some (.ref q3) ∧ /- holds -/
      ∃ e4, xm_ld xm_st h 0 q3 x1 = some e4 ∧
      (if e4 = (-3 : Int32) then
        P (some (.int (0 : Int32))) h
      else
        P (some (.int (-12 : Int32))) h))) :
    xm_Call K' sX9_rowFault 9 [.ref a0, .int x1] h P :=
  xm_call_of (C := kX9_rowFault) hK (by decide +kernel) rfl (Nat.le_of_ble_eq_true rfl) (Or.inr ⟨a0, hr.choose, rfl, hr.choose_spec⟩) (xX9_rowFault_0 H)

def kX9_at : List xm_I := [
  i_0 0 (.aload_n 0) 1 none,
  i_f 1 (.getfield 114) 3 none 9 56 [981] 1,
  i_v 4 (.bipush 60) 2 none 60 [],
  i_0 6 (.iload_n 1) 1 none,
  i_0 7 (.imul) 1 none,
  i_0 8 (.iload_n 2) 1 none,
  i_0 9 (.iadd) 1 none,
  i_0 10 (.laload) 1 none,
  i_0 11 (.l2i) 1 none,
  i_0 12 (.ireturn) 1 none]
set_option maxRecDepth 100000 in
theorem oX9_at : xm_ok sX9_at sX9_at.1.cls kX9_at = true := by decide +kernel
set_option maxRecDepth 100000 in
set_option maxHeartbeats 4000000 in
theorem xX9_at_0 {K : Nat} {h : xm_H} {P : Option Value → xm_H → Prop} {a0 : Nat} {x1 : Int32} {x2 : Int32} (H :
    ∃ q1, xm_fld h a0 9 56 = some (.ref q1) ∧ /- elements -/
    ∃ e2, xm_ldL h q1 (((60 : Int32) * x1) + x2) = some e2 ∧
    P (some (.int (Int64.toInt32 e2))) h) :
    xm_L K sX9_at kX9_at 0 [some (.ref a0), some (.int x1), some (.int x2)] [] h P :=
  xm_run (fun _ _ h => h) oX9_at 11 0 0 0 [some (.ref a0), some (.int x1), some (.int x2)] [] h H
set_option maxRecDepth 100000 in
theorem eX9_at {K K' : Nat} (hK : K < K') {h : xm_H} {P : Option Value → xm_H → Prop} {a0 : Nat} {x1 : Int32} {x2 : Int32} (hr : ∃ fs, h[a0]? = some (.inr (9, fs))) (H :
    ∃ q1, xm_fld h a0 9 56 = some (.ref q1) ∧ /- elements -/
    ∃ e2, xm_ldL h q1 (((60 : Int32) * x1) + x2) = some e2 ∧
    P (some (.int (Int64.toInt32 e2))) h) :
    xm_Call K' sX9_at 9 [.ref a0, .int x1, .int x2] h P :=
  xm_call_of (C := kX9_at) hK (by decide +kernel) rfl (Nat.le_of_ble_eq_true rfl) (Or.inr ⟨a0, hr.choose, rfl, hr.choose_spec⟩) (xX9_at_0 H)

def kX9_isTwo : List xm_I := [
  i_0 0 (.iload_n 2) 1 none,
  i_v 1 (.bipush 20) 2 none 20 [],
  i_j 3 (.if_icmp .ge 49) 3 none 33,
  i_v 6 (.iconst 2) 1 none 2 [],
  i_0 7 (.iload_n 2) 1 none,
  i_0 8 (.imul) 1 none,
  i_v 9 (.iconst 1) 1 none 1 [],
  i_0 10 (.iadd) 1 none,
  i_0 11 (.aload_n 0) 1 none,
  i_f 12 (.getfield 111) 3 none 9 55 [980] 1,
  i_0 15 (.iload_n 1) 1 none,
  i_0 16 (.iaload) 1 none,
  i_j 17 (.if_icmp .ge 35) 3 none 33,
  i_0 20 (.aload_n 0) 1 none,
  i_0 21 (.aload_n 0) 1 none,
  i_0 22 (.iload_n 1) 1 none,
  i_v 23 (.iconst 2) 1 none 2 [],
  i_0 24 (.iload_n 2) 1 none,
  i_0 25 (.imul) 1 none,
  i_m 26 (.invokevirtual 344) 3 none 2 9 [1405, 1407, 82, 117, 1408] 0 sX9_at,
  i_m 29 (.invokevirtual 156) 3 none 1 9 [1141, 1143, 37, 117, 1144] 0 sX9_isOne,
  i_j 32 (.ifCond .eq 20) 3 none 33,
  i_0 35 (.aload_n 0) 1 none,
  i_0 36 (.iload_n 1) 1 none,
  i_v 37 (.iconst 2) 1 none 2 [],
  i_0 38 (.iload_n 2) 1 none,
  i_0 39 (.imul) 1 none,
  i_v 40 (.iconst 1) 1 none 1 [],
  i_0 41 (.iadd) 1 none,
  i_m 42 (.invokevirtual 344) 3 none 2 9 [1405, 1407, 82, 117, 1408] 0 sX9_at,
  i_j 45 (.ifCond .lt 7) 3 none 33,
  i_v 48 (.iconst 1) 1 none 1 [],
  i_j 49 (.goto 4) 3 none 34,
  i_v 52 (.iconst 0) 1 none 0 [],
  i_0 53 (.ireturn) 1 none]
set_option maxRecDepth 100000 in
theorem oX9_isTwo : xm_ok sX9_isTwo sX9_isTwo.1.cls kX9_isTwo = true := by decide +kernel
set_option maxRecDepth 100000 in
set_option maxHeartbeats 4000000 in
theorem xX9_isTwo_0 {K : Nat} {h : xm_H} {P : Option Value → xm_H → Prop} {a0 : Nat} {x1 : Int32} {x2 : Int32} (H :
    (if x2 < (20 : Int32) then
      ∃ q1, xm_fld h a0 9 55 = some (.ref q1) ∧ /- size -/
      ∃ e2, xm_ld xm_st h 0 q1 x1 = some e2 ∧
      (if (((2 : Int32) * x2) + (1 : Int32)) < e2 then
        xm_Call K sX9_at 9 [.ref a0, .int x1, .int ((2 : Int32) * x2)] h (xm_pi fun c4 h3 =>
          xm_Call K sX9_isOne 9 [.ref a0, .int c4] h3 (xm_pi fun c6 h5 =>
            (if c6 = 0 then
              P (some (.int (0 : Int32))) h5
            else
              xm_Call K sX9_at 9 [.ref a0, .int x1, .int (((2 : Int32) * x2) + (1 : Int32))] h5 (xm_pi fun c8 h7 =>
                (if c8 < 0 then
                  P (some (.int (0 : Int32))) h7
                else
                  P (some (.int (1 : Int32))) h7)))))
      else
        P (some (.int (0 : Int32))) h)
    else
      P (some (.int (0 : Int32))) h)) :
    xm_L K sX9_isTwo kX9_isTwo 0 [some (.ref a0), some (.int x1), some (.int x2)] [] h P :=
  xm_run (fun _ _ h => h) oX9_isTwo 35 0 0 0 [some (.ref a0), some (.int x1), some (.int x2)] [] h H
set_option maxRecDepth 100000 in
theorem eX9_isTwo {K K' : Nat} (hK : K < K') {h : xm_H} {P : Option Value → xm_H → Prop} {a0 : Nat} {x1 : Int32} {x2 : Int32} (hr : ∃ fs, h[a0]? = some (.inr (9, fs))) (H :
    (if x2 < (20 : Int32) then
      ∃ q1, xm_fld h a0 9 55 = some (.ref q1) ∧ /- size -/
      ∃ e2, xm_ld xm_st h 0 q1 x1 = some e2 ∧
      (if (((2 : Int32) * x2) + (1 : Int32)) < e2 then
        xm_Call K sX9_at 9 [.ref a0, .int x1, .int ((2 : Int32) * x2)] h (xm_pi fun c4 h3 =>
          xm_Call K sX9_isOne 9 [.ref a0, .int c4] h3 (xm_pi fun c6 h5 =>
            (if c6 = 0 then
              P (some (.int (0 : Int32))) h5
            else
              xm_Call K sX9_at 9 [.ref a0, .int x1, .int (((2 : Int32) * x2) + (1 : Int32))] h5 (xm_pi fun c8 h7 =>
                (if c8 < 0 then
                  P (some (.int (0 : Int32))) h7
                else
                  P (some (.int (1 : Int32))) h7)))))
      else
        P (some (.int (0 : Int32))) h)
    else
      P (some (.int (0 : Int32))) h)) :
    xm_Call K' sX9_isTwo 9 [.ref a0, .int x1, .int x2] h P :=
  xm_call_of (C := kX9_isTwo) hK (by decide +kernel) rfl (Nat.le_of_ble_eq_true rfl) (Or.inr ⟨a0, hr.choose, rfl, hr.choose_spec⟩) (xX9_isTwo_0 H)

def kX9_wrongTwo : List xm_I := [
  i_0 0 (.aload_n 0) 1 none,
  i_m 1 (.invokevirtual 285) 3 none 0 9 [1270, 1272, 62, 117, 1273] 0 sX9_assess,
  i_v 4 (.iconst 0) 1 none 0 [],
  i_0 5 (.istore_n 2) 1 none,
  i_0 6 (.aload_n 0) 1 (some [true, true, true]),
  i_0 7 (.iload_n 1) 1 none,
  i_0 8 (.iload_n 2) 1 none,
  i_m 9 (.invokevirtual 347) 3 none 2 9 [1401, 1403, 81, 117, 1404] 0 sX9_isTwo,
  i_j 12 (.ifCond .eq 36) 3 none 30,
  i_0 15 (.aload_n 0) 1 none,
  i_0 16 (.aload_n 0) 1 none,
  i_0 17 (.iload_n 1) 1 none,
  i_v 18 (.iconst 2) 1 none 2 [],
  i_0 19 (.iload_n 2) 1 none,
  i_0 20 (.imul) 1 none,
  i_m 21 (.invokevirtual 344) 3 none 2 9 [1405, 1407, 82, 117, 1408] 0 sX9_at,
  i_m 24 (.invokevirtual 282) 3 none 1 9 [1289, 1291, 66, 117, 1292] 0 sX9_shareOf,
  i_0 27 (.aload_n 0) 1 none,
  i_0 28 (.iload_n 1) 1 none,
  i_v 29 (.iconst 2) 1 none 2 [],
  i_0 30 (.iload_n 2) 1 none,
  i_0 31 (.imul) 1 none,
  i_v 32 (.iconst 1) 1 none 1 [],
  i_0 33 (.iadd) 1 none,
  i_m 34 (.invokevirtual 344) 3 none 2 9 [1405, 1407, 82, 117, 1408] 0 sX9_at,
  i_j 37 (.if_icmp .eq 5) 3 none 28,
  i_0 40 (.iload_n 2) 1 none,
  i_0 41 (.ireturn) 1 none,
  i_v 42 (.iinc 2 1) 3 none 1 [],
  i_j 45 (.goto (-39)) 3 none 4,
  i_v 48 (.bipush (-2)) 2 none (-2) [],
  i_0 50 (.ireturn) 1 none]
set_option maxRecDepth 100000 in
theorem oX9_wrongTwo : xm_ok sX9_wrongTwo sX9_wrongTwo.1.cls kX9_wrongTwo = true := by decide +kernel
set_option maxRecDepth 100000 in
set_option maxHeartbeats 4000000 in
theorem xX9_wrongTwo_0 {K : Nat} {h : xm_H} {P : Option Value → xm_H → Prop} {a0 : Nat} {x1 : Int32} (H :
    xm_Call K sX9_assess 9 [.ref a0] h (xm_pv fun h1 =>
      xm_L K sX9_wrongTwo kX9_wrongTwo 4 [some (.ref a0), some (.int x1), some (.int (0 : Int32))] [] h1 P)) :
    xm_L K sX9_wrongTwo kX9_wrongTwo 0 [some (.ref a0), some (.int x1), none] [] h P :=
  xm_run (fun _ _ h => h) oX9_wrongTwo 5 0 0 0 [some (.ref a0), some (.int x1), none] [] h H
set_option maxRecDepth 100000 in
theorem eX9_wrongTwo {K K' : Nat} (hK : K < K') {h : xm_H} {P : Option Value → xm_H → Prop} {a0 : Nat} {x1 : Int32} (hr : ∃ fs, h[a0]? = some (.inr (9, fs))) (H :
    xm_Call K sX9_assess 9 [.ref a0] h (xm_pv fun h1 =>
      xm_L K sX9_wrongTwo kX9_wrongTwo 4 [some (.ref a0), some (.int x1), some (.int (0 : Int32))] [] h1 P)) :
    xm_Call K' sX9_wrongTwo 9 [.ref a0, .int x1] h P :=
  xm_call_of (C := kX9_wrongTwo) hK (by decide +kernel) rfl (Nat.le_of_ble_eq_true rfl) (Or.inr ⟨a0, hr.choose, rfl, hr.choose_spec⟩) (xX9_wrongTwo_0 H)

set_option maxRecDepth 100000 in
set_option maxHeartbeats 4000000 in
theorem xX9_wrongTwo_4 {K : Nat} {h : xm_H} {P : Option Value → xm_H → Prop} {a0 : Nat} {x1 : Int32} {x2 : Int32} (H :
    xm_Call K sX9_isTwo 9 [.ref a0, .int x1, .int x2] h (xm_pi fun c2 h1 =>
      (if c2 = 0 then
        P (some (.int (-2 : Int32))) h1
      else
        xm_Call K sX9_at 9 [.ref a0, .int x1, .int ((2 : Int32) * x2)] h1 (xm_pi fun c4 h3 =>
          xm_Call K sX9_shareOf 9 [.ref a0, .int c4] h3 (xm_pi fun c6 h5 =>
            xm_Call K sX9_at 9 [.ref a0, .int x1, .int (((2 : Int32) * x2) + (1 : Int32))] h5 (xm_pi fun c8 h7 =>
              (if c6 = c8 then
                xm_L K sX9_wrongTwo kX9_wrongTwo 4 [some (.ref a0), some (.int x1), some (.int (x2 + (1 : Int32)))] [] h7 P
              else
                P (some (.int x2)) h7))))))) :
    xm_L K sX9_wrongTwo kX9_wrongTwo 4 [some (.ref a0), some (.int x1), some (.int x2)] [] h P :=
  xm_run (fun _ _ h => h) oX9_wrongTwo 25 4 0 0 [some (.ref a0), some (.int x1), some (.int x2)] [] h H

def kX9_judge : List xm_I := [
  i_0 0 (.iload_n 1) 1 none,
  i_m 1 (.invokestatic 136) 3 none 1 99 [1117, 1118, 117, 1119] 0 sX9_isShelf,
  i_j 4 (.ifCond .ne 5) 3 none 5,
  i_v 7 (.iconst (-1)) 1 none (-1) [],
  i_0 8 (.ireturn) 1 none,
  i_0 9 (.aload_n 0) 1 none,
  i_0 10 (.iload_n 1) 1 none,
  i_m 11 (.invokevirtual 350) 3 none 1 9 [1393, 1395, 79, 117, 1396] 0 sX9_rowFault,
  i_j 14 (.ifCond .ge 9) 3 none 13,
  i_0 17 (.aload_n 0) 1 none,
  i_0 18 (.iload_n 1) 1 none,
  i_m 19 (.invokevirtual 350) 3 none 1 9 [1393, 1395, 79, 117, 1396] 0 sX9_rowFault,
  i_0 22 (.ireturn) 1 none,
  i_0 23 (.aload_n 0) 1 none,
  i_m 24 (.invokevirtual 267) 3 none 0 9 [1227, 1229, 53, 117, 1230] 0 sX9_layNow,
  i_0 27 (.aload_n 0) 1 none,
  i_0 28 (.iload_n 1) 1 none,
  i_m 29 (.invokevirtual 353) 3 none 1 9 [1397, 1399, 80, 117, 1400] 0 sX9_wrongTwo,
  i_0 32 (.ireturn) 1 none]
set_option maxRecDepth 100000 in
theorem oX9_judge : xm_ok sX9_judge sX9_judge.1.cls kX9_judge = true := by decide +kernel
set_option maxRecDepth 100000 in
set_option maxHeartbeats 4000000 in
theorem xX9_judge_0 {K : Nat} {h : xm_H} {P : Option Value → xm_H → Prop} {a0 : Nat} {x1 : Int32} (H :
    xm_Call K sX9_isShelf 99 [.int x1] h (xm_pi fun c2 h1 =>
      (if c2 = 0 then
        P (some (.int (-1 : Int32))) h1
      else
        xm_Call K sX9_rowFault 9 [.ref a0, .int x1] h1 (xm_pi fun c4 h3 =>
          (if c4 < 0 then
            xm_Call K sX9_rowFault 9 [.ref a0, .int x1] h3 (xm_pi fun c6 h5 =>
              P (some (.int c6)) h5)
          else
            xm_Call K sX9_layNow 9 [.ref a0] h3 (xm_pv fun h7 =>
              xm_Call K sX9_wrongTwo 9 [.ref a0, .int x1] h7 (xm_pi fun c9 h8 =>
                P (some (.int c9)) h8))))))) :
    xm_L K sX9_judge kX9_judge 0 [some (.ref a0), some (.int x1)] [] h P :=
  xm_run (fun _ _ h => h) oX9_judge 14 0 0 0 [some (.ref a0), some (.int x1)] [] h H
set_option maxRecDepth 100000 in
theorem eX9_judge {K K' : Nat} (hK : K < K') {h : xm_H} {P : Option Value → xm_H → Prop} {a0 : Nat} {x1 : Int32} (hr : ∃ fs, h[a0]? = some (.inr (9, fs))) (H :
    xm_Call K sX9_isShelf 99 [.int x1] h (xm_pi fun c2 h1 =>
      (if c2 = 0 then
        P (some (.int (-1 : Int32))) h1
      else
        xm_Call K sX9_rowFault 9 [.ref a0, .int x1] h1 (xm_pi fun c4 h3 =>
          (if c4 < 0 then
            xm_Call K sX9_rowFault 9 [.ref a0, .int x1] h3 (xm_pi fun c6 h5 =>
              P (some (.int c6)) h5)
          else
            xm_Call K sX9_layNow 9 [.ref a0] h3 (xm_pv fun h7 =>
              xm_Call K sX9_wrongTwo 9 [.ref a0, .int x1] h7 (xm_pi fun c9 h8 =>
                P (some (.int c9)) h8))))))) :
    xm_Call K' sX9_judge 9 [.ref a0, .int x1] h P :=
  xm_call_of (C := kX9_judge) hK (by decide +kernel) rfl (Nat.le_of_ble_eq_true rfl) (Or.inr ⟨a0, hr.choose, rfl, hr.choose_spec⟩) (xX9_judge_0 H)

def kX9_habitBits : List xm_I := [
  i_v 0 (.iconst 0) 1 none 0 [],
  i_0 1 (.istore_n 3) 1 none,
  i_v 2 (.iconst 0) 1 none 0 [],
  i_0 3 (.istore 4) 2 none,
  i_0 5 (.iload 4) 2 (some [true, true, true, true, true]),
  i_v 7 (.iconst 4) 1 none 4 [],
  i_j 8 (.if_icmp .ge 32) 3 none 24,
  i_0 11 (.aload_n 0) 1 none,
  i_f 12 (.getfield 75) 3 none 9 31 [956] 1,
  i_0 15 (.iload_n 2) 1 none,
  i_0 16 (.iload 4) 2 none,
  i_0 18 (.iastore) 1 none,
  i_0 19 (.aload_n 0) 1 none,
  i_0 20 (.iload_n 1) 1 none,
  i_m 21 (.invokevirtual 353) 3 none 1 9 [1397, 1399, 80, 117, 1400] 0 sX9_wrongTwo,
  i_j 24 (.ifCond .ge 10) 3 none 22,
  i_0 27 (.iload_n 3) 1 none,
  i_v 28 (.iconst 1) 1 none 1 [],
  i_0 29 (.iload 4) 2 none,
  i_0 31 (.ishl) 1 none,
  i_0 32 (.ior) 1 none,
  i_0 33 (.istore_n 3) 1 none,
  i_v 34 (.iinc 4 1) 3 none 1 [],
  i_j 37 (.goto (-32)) 3 none 4,
  i_0 40 (.iload_n 3) 1 none,
  i_0 41 (.ireturn) 1 none]
set_option maxRecDepth 100000 in
theorem oX9_habitBits : xm_ok sX9_habitBits sX9_habitBits.1.cls kX9_habitBits = true := by decide +kernel
set_option maxRecDepth 100000 in
set_option maxHeartbeats 4000000 in
theorem xX9_habitBits_0 {K : Nat} {h : xm_H} {P : Option Value → xm_H → Prop} {a0 : Nat} {x1 : Int32} {x2 : Int32} (H :
    xm_L K sX9_habitBits kX9_habitBits 4 [some (.ref a0), some (.int x1), some (.int x2), some (.int (0 : Int32)), some (.int (0 : Int32))] [] h P) :
    xm_L K sX9_habitBits kX9_habitBits 0 [some (.ref a0), some (.int x1), some (.int x2), none, none] [] h P :=
  xm_run (fun _ _ h => h) oX9_habitBits 5 0 0 0 [some (.ref a0), some (.int x1), some (.int x2), none, none] [] h H
set_option maxRecDepth 100000 in
theorem eX9_habitBits {K K' : Nat} (hK : K < K') {h : xm_H} {P : Option Value → xm_H → Prop} {a0 : Nat} {x1 : Int32} {x2 : Int32} (hr : ∃ fs, h[a0]? = some (.inr (9, fs))) (H :
    xm_L K sX9_habitBits kX9_habitBits 4 [some (.ref a0), some (.int x1), some (.int x2), some (.int (0 : Int32)), some (.int (0 : Int32))] [] h P) :
    xm_Call K' sX9_habitBits 9 [.ref a0, .int x1, .int x2] h P :=
  xm_call_of (C := kX9_habitBits) hK (by decide +kernel) rfl (Nat.le_of_ble_eq_true rfl) (Or.inr ⟨a0, hr.choose, rfl, hr.choose_spec⟩) (xX9_habitBits_0 H)

set_option maxRecDepth 100000 in
set_option maxHeartbeats 4000000 in
theorem xX9_habitBits_4 {K : Nat} {h : xm_H} {P : Option Value → xm_H → Prop} {a0 : Nat} {x1 : Int32} {x2 : Int32} {x3 : Int32} {x4 : Int32} (H :
    (if x4 < (4 : Int32) then
      ∃ q1, xm_fld h a0 9 31 = some (.ref q1) ∧ /- habit1 -/
      ∃ h2, xm_sto h 0 q1 x2 x4 = some h2 ∧
      xm_Call K sX9_wrongTwo 9 [.ref a0, .int x1] h2 (xm_pi fun c4 h3 =>
        (if c4 < 0 then
          xm_L K sX9_habitBits kX9_habitBits 4 [some (.ref a0), some (.int x1), some (.int x2), some (.int (x3 ||| ((1 : Int32) <<< (x4 &&& 31)))), some (.int (x4 + (1 : Int32)))] [] h3 P
        else
          xm_L K sX9_habitBits kX9_habitBits 4 [some (.ref a0), some (.int x1), some (.int x2), some (.int x3), some (.int (x4 + (1 : Int32)))] [] h3 P))
    else
      P (some (.int x3)) h)) :
    xm_L K sX9_habitBits kX9_habitBits 4 [some (.ref a0), some (.int x1), some (.int x2), some (.int x3), some (.int x4)] [] h P :=
  xm_run (fun _ _ h => h) oX9_habitBits 21 4 0 0 [some (.ref a0), some (.int x1), some (.int x2), some (.int x3), some (.int x4)] [] h H

def kX9_kindBits : List xm_I := [
  i_0 0 (.aload_n 0) 1 none,
  i_f 1 (.getfield 22) 3 none 9 6 [931] 1,
  i_0 4 (.iload_n 2) 1 none,
  i_0 5 (.iaload) 1 none,
  i_0 6 (.istore_n 3) 1 none,
  i_v 7 (.iconst 0) 1 none 0 [],
  i_0 8 (.istore 4) 2 none,
  i_v 10 (.iconst 0) 1 none 0 [],
  i_0 11 (.istore 5) 2 none,
  i_0 13 (.iload 5) 2 (some [true, true, true, true, true, true]),
  i_v 15 (.iconst 5) 1 none 5 [],
  i_j 16 (.if_icmp .ge 34) 3 none 29,
  i_0 19 (.aload_n 0) 1 none,
  i_f 20 (.getfield 22) 3 none 9 6 [931] 1,
  i_0 23 (.iload_n 2) 1 none,
  i_0 24 (.iload 5) 2 none,
  i_0 26 (.iastore) 1 none,
  i_0 27 (.aload_n 0) 1 none,
  i_0 28 (.iload_n 1) 1 none,
  i_m 29 (.invokevirtual 353) 3 none 1 9 [1397, 1399, 80, 117, 1400] 0 sX9_wrongTwo,
  i_j 32 (.ifCond .ge 12) 3 none 27,
  i_0 35 (.iload 4) 2 none,
  i_v 37 (.iconst 1) 1 none 1 [],
  i_0 38 (.iload 5) 2 none,
  i_0 40 (.ishl) 1 none,
  i_0 41 (.ior) 1 none,
  i_0 42 (.istore 4) 2 none,
  i_v 44 (.iinc 5 1) 3 none 1 [],
  i_j 47 (.goto (-34)) 3 none 9,
  i_0 50 (.aload_n 0) 1 none,
  i_f 51 (.getfield 22) 3 none 9 6 [931] 1,
  i_0 54 (.iload_n 2) 1 none,
  i_0 55 (.iload_n 3) 1 none,
  i_0 56 (.iastore) 1 none,
  i_0 57 (.iload 4) 2 none,
  i_0 59 (.ireturn) 1 none]
set_option maxRecDepth 100000 in
theorem oX9_kindBits : xm_ok sX9_kindBits sX9_kindBits.1.cls kX9_kindBits = true := by decide +kernel
set_option maxRecDepth 100000 in
set_option maxHeartbeats 4000000 in
theorem xX9_kindBits_0 {K : Nat} {h : xm_H} {P : Option Value → xm_H → Prop} {a0 : Nat} {x1 : Int32} {x2 : Int32} (H :
    ∃ q1, xm_fld h a0 9 6 = some (.ref q1) ∧ /- kindOf -/
    ∃ e2, xm_ld xm_st h 0 q1 x2 = some e2 ∧
    xm_L K sX9_kindBits kX9_kindBits 9 [some (.ref a0), some (.int x1), some (.int x2), some (.int e2), some (.int (0 : Int32)), some (.int (0 : Int32))] [] h P) :
    xm_L K sX9_kindBits kX9_kindBits 0 [some (.ref a0), some (.int x1), some (.int x2), none, none, none] [] h P :=
  xm_run (fun _ _ h => h) oX9_kindBits 10 0 0 0 [some (.ref a0), some (.int x1), some (.int x2), none, none, none] [] h H
set_option maxRecDepth 100000 in
theorem eX9_kindBits {K K' : Nat} (hK : K < K') {h : xm_H} {P : Option Value → xm_H → Prop} {a0 : Nat} {x1 : Int32} {x2 : Int32} (hr : ∃ fs, h[a0]? = some (.inr (9, fs))) (H :
    ∃ q1, xm_fld h a0 9 6 = some (.ref q1) ∧ /- kindOf -/
    ∃ e2, xm_ld xm_st h 0 q1 x2 = some e2 ∧
    xm_L K sX9_kindBits kX9_kindBits 9 [some (.ref a0), some (.int x1), some (.int x2), some (.int e2), some (.int (0 : Int32)), some (.int (0 : Int32))] [] h P) :
    xm_Call K' sX9_kindBits 9 [.ref a0, .int x1, .int x2] h P :=
  xm_call_of (C := kX9_kindBits) hK (by decide +kernel) rfl (Nat.le_of_ble_eq_true rfl) (Or.inr ⟨a0, hr.choose, rfl, hr.choose_spec⟩) (xX9_kindBits_0 H)

set_option maxRecDepth 100000 in
set_option maxHeartbeats 4000000 in
theorem xX9_kindBits_9 {K : Nat} {h : xm_H} {P : Option Value → xm_H → Prop} {a0 : Nat} {x1 : Int32} {x2 : Int32} {x3 : Int32} {x4 : Int32} {x5 : Int32} (H :
    (if x5 < (5 : Int32) then
      ∃ q1, xm_fld h a0 9 6 = some (.ref q1) ∧ /- kindOf -/
      ∃ h2, xm_sto h 0 q1 x2 x5 = some h2 ∧
      xm_Call K sX9_wrongTwo 9 [.ref a0, .int x1] h2 (xm_pi fun c4 h3 =>
        (if c4 < 0 then
          xm_L K sX9_kindBits kX9_kindBits 9 [some (.ref a0), some (.int x1), some (.int x2), some (.int x3), some (.int (x4 ||| ((1 : Int32) <<< (x5 &&& 31)))), some (.int (x5 + (1 : Int32)))] [] h3 P
        else
          xm_L K sX9_kindBits kX9_kindBits 9 [some (.ref a0), some (.int x1), some (.int x2), some (.int x3), some (.int x4), some (.int (x5 + (1 : Int32)))] [] h3 P))
    else
      ∃ q5, xm_fld h a0 9 6 = some (.ref q5) ∧ /- kindOf -/
      ∃ h6, xm_sto h 0 q5 x2 x3 = some h6 ∧
      P (some (.int x4)) h6)) :
    xm_L K sX9_kindBits kX9_kindBits 9 [some (.ref a0), some (.int x1), some (.int x2), some (.int x3), some (.int x4), some (.int x5)] [] h P :=
  xm_run (fun _ _ h => h) oX9_kindBits 21 9 0 0 [some (.ref a0), some (.int x1), some (.int x2), some (.int x3), some (.int x4), some (.int x5)] [] h H

def kX9_snowsOf : List xm_I := [
  i_v 0 (.iconst 0) 1 none 0 [],
  i_0 1 (.istore_n 3) 1 none,
  i_v 2 (.bipush (-2)) 2 none (-2) [],
  i_0 4 (.istore 4) 2 none,
  i_v 6 (.iconst 0) 1 none 0 [],
  i_0 7 (.istore 5) 2 none,
  i_0 9 (.iload 5) 2 (some [true, true, true, true, true, true]),
  i_v 11 (.bipush 99) 2 none 99 [],
  i_j 13 (.if_icmp .gt 37) 3 none 24,
  i_0 16 (.aload_n 0) 1 none,
  i_0 17 (.iload 5) 2 none,
  i_f 19 (.putfield 243) 3 none 9 36 [961] 0,
  i_0 22 (.aload_n 0) 1 none,
  i_0 23 (.iload_n 1) 1 none,
  i_m 24 (.invokevirtual 353) 3 none 1 9 [1397, 1399, 80, 117, 1400] 0 sX9_wrongTwo,
  i_j 27 (.ifCond .lt 6) 3 none 17,
  i_j 30 (.goto 14) 3 none 22,
  i_0 33 (.iload_n 3) 1 none,
  i_j 34 (.ifCond .ne 7) 3 none 21,
  i_0 37 (.iload 5) 2 none,
  i_0 39 (.istore 4) 2 none,
  i_v 41 (.iinc 3 1) 3 none 1 [],
  i_v 44 (.iinc 5 1) 3 none 1 [],
  i_j 47 (.goto (-38)) 3 none 6,
  i_0 50 (.iload_n 2) 1 none,
  i_j 51 (.ifCond .eq 8) 3 none 28,
  i_0 54 (.iload 4) 2 none,
  i_j 56 (.goto 4) 3 none 29,
  i_0 59 (.iload_n 3) 1 none,
  i_0 60 (.ireturn) 1 none]
set_option maxRecDepth 100000 in
theorem oX9_snowsOf : xm_ok sX9_snowsOf sX9_snowsOf.1.cls kX9_snowsOf = true := by decide +kernel
set_option maxRecDepth 100000 in
set_option maxHeartbeats 4000000 in
theorem xX9_snowsOf_0 {K : Nat} {h : xm_H} {P : Option Value → xm_H → Prop} {a0 : Nat} {x1 : Int32} {x2 : Int32} (H :
    xm_L K sX9_snowsOf kX9_snowsOf 6 [some (.ref a0), some (.int x1), some (.int x2), some (.int (0 : Int32)), some (.int (-2 : Int32)), some (.int (0 : Int32))] [] h P) :
    xm_L K sX9_snowsOf kX9_snowsOf 0 [some (.ref a0), some (.int x1), some (.int x2), none, none, none] [] h P :=
  xm_run (fun _ _ h => h) oX9_snowsOf 7 0 0 0 [some (.ref a0), some (.int x1), some (.int x2), none, none, none] [] h H
set_option maxRecDepth 100000 in
theorem eX9_snowsOf {K K' : Nat} (hK : K < K') {h : xm_H} {P : Option Value → xm_H → Prop} {a0 : Nat} {x1 : Int32} {x2 : Int32} (hr : ∃ fs, h[a0]? = some (.inr (9, fs))) (H :
    xm_L K sX9_snowsOf kX9_snowsOf 6 [some (.ref a0), some (.int x1), some (.int x2), some (.int (0 : Int32)), some (.int (-2 : Int32)), some (.int (0 : Int32))] [] h P) :
    xm_Call K' sX9_snowsOf 9 [.ref a0, .int x1, .int x2] h P :=
  xm_call_of (C := kX9_snowsOf) hK (by decide +kernel) rfl (Nat.le_of_ble_eq_true rfl) (Or.inr ⟨a0, hr.choose, rfl, hr.choose_spec⟩) (xX9_snowsOf_0 H)

set_option maxRecDepth 100000 in
set_option maxHeartbeats 4000000 in
theorem xX9_snowsOf_6 {K : Nat} {h : xm_H} {P : Option Value → xm_H → Prop} {a0 : Nat} {x1 : Int32} {x2 : Int32} {x3 : Int32} {x4 : Int32} {x5 : Int32} (H :
    (if (99 : Int32) < x5 then
      (if x2 = 0 then
        P (some (.int x3)) h
      else
        P (some (.int x4)) h)
    else
      ∃ h1, xm_put h a0 9 36 (.int x5) = some h1 ∧ /- snow1 -/
      xm_Call K sX9_wrongTwo 9 [.ref a0, .int x1] h1 (xm_pi fun c3 h2 =>
        (if c3 < 0 then
          (if x3 = 0 then
            xm_L K sX9_snowsOf kX9_snowsOf 6 [some (.ref a0), some (.int x1), some (.int x2), some (.int (x3 + (1 : Int32))), some (.int x5), some (.int (x5 + (1 : Int32)))] [] h2 P
          else
            xm_L K sX9_snowsOf kX9_snowsOf 6 [some (.ref a0), some (.int x1), some (.int x2), some (.int (x3 + (1 : Int32))), some (.int x4), some (.int (x5 + (1 : Int32)))] [] h2 P)
        else
          xm_L K sX9_snowsOf kX9_snowsOf 6 [some (.ref a0), some (.int x1), some (.int x2), some (.int x3), some (.int x4), some (.int (x5 + (1 : Int32)))] [] h2 P)))) :
    xm_L K sX9_snowsOf kX9_snowsOf 6 [some (.ref a0), some (.int x1), some (.int x2), some (.int x3), some (.int x4), some (.int x5)] [] h P :=
  xm_run (fun _ _ h => h) oX9_snowsOf 18 6 0 0 [some (.ref a0), some (.int x1), some (.int x2), some (.int x3), some (.int x4), some (.int x5)] [] h H

def kX9_earsOf : List xm_I := [
  i_v 0 (.iconst 0) 1 none 0 [],
  i_0 1 (.istore_n 3) 1 none,
  i_v 2 (.bipush (-2)) 2 none (-2) [],
  i_0 4 (.istore 4) 2 none,
  i_v 6 (.iconst 0) 1 none 0 [],
  i_0 7 (.istore 5) 2 none,
  i_0 9 (.iload 5) 2 (some [true, true, true, true, true, true, false]),
  i_0 11 (.aload_n 0) 1 none,
  i_m 12 (.invokevirtual 288) 3 none 0 9 [1278, 1280, 64, 117, 1281] 0 sX9_everybody,
  i_j 15 (.if_icmp .gt 71) 3 none 41,
  i_v 18 (.iconst 0) 1 none 0 [],
  i_0 19 (.istore 6) 2 none,
  i_0 21 (.iload 6) 2 (some [true, true, true, true, true, true, true]),
  i_0 23 (.aload_n 0) 1 none,
  i_f 24 (.getfield 125) 3 none 9 1 [926] 0,
  i_j 27 (.if_icmp .ge 31) 3 none 29,
  i_0 30 (.aload_n 0) 1 none,
  i_f 31 (.getfield 78) 3 none 9 32 [957] 1,
  i_0 34 (.iload 6) 2 none,
  i_0 36 (.iload 5) 2 none,
  i_0 38 (.iload 6) 2 none,
  i_m 40 (.invokestatic 279) 3 none 2 99 [1286, 1287, 117, 1288] 0 sX9_has,
  i_j 43 (.ifCond .eq 7) 3 none 25,
  i_v 46 (.iconst 1) 1 none 1 [],
  i_j 47 (.goto 4) 3 none 26,
  i_v 50 (.iconst 0) 1 none 0 [],
  i_0 51 (.iastore) 1 none,
  i_v 52 (.iinc 6 1) 3 none 1 [],
  i_j 55 (.goto (-34)) 3 none 12,
  i_0 58 (.aload_n 0) 1 none,
  i_0 59 (.iload_n 1) 1 none,
  i_m 60 (.invokevirtual 353) 3 none 1 9 [1397, 1399, 80, 117, 1400] 0 sX9_wrongTwo,
  i_j 63 (.ifCond .lt 6) 3 none 34,
  i_j 66 (.goto 14) 3 none 39,
  i_0 69 (.iload_n 3) 1 none,
  i_j 70 (.ifCond .ne 7) 3 none 38,
  i_0 73 (.iload 5) 2 none,
  i_0 75 (.istore 4) 2 none,
  i_v 77 (.iinc 3 1) 3 none 1 [],
  i_v 80 (.iinc 5 1) 3 none 1 [],
  i_j 83 (.goto (-74)) 3 none 6,
  i_0 86 (.iload_n 2) 1 none,
  i_j 87 (.ifCond .eq 8) 3 none 45,
  i_0 90 (.iload 4) 2 none,
  i_j 92 (.goto 4) 3 none 46,
  i_0 95 (.iload_n 3) 1 none,
  i_0 96 (.ireturn) 1 none]
set_option maxRecDepth 100000 in
theorem oX9_earsOf : xm_ok sX9_earsOf sX9_earsOf.1.cls kX9_earsOf = true := by decide +kernel
set_option maxRecDepth 100000 in
set_option maxHeartbeats 4000000 in
theorem xX9_earsOf_0 {K : Nat} {h : xm_H} {P : Option Value → xm_H → Prop} {a0 : Nat} {x1 : Int32} {x2 : Int32} (H :
    xm_L K sX9_earsOf kX9_earsOf 6 [some (.ref a0), some (.int x1), some (.int x2), some (.int (0 : Int32)), some (.int (-2 : Int32)), some (.int (0 : Int32)), none] [] h P) :
    xm_L K sX9_earsOf kX9_earsOf 0 [some (.ref a0), some (.int x1), some (.int x2), none, none, none, none] [] h P :=
  xm_run (fun _ _ h => h) oX9_earsOf 7 0 0 0 [some (.ref a0), some (.int x1), some (.int x2), none, none, none, none] [] h H
set_option maxRecDepth 100000 in
theorem eX9_earsOf {K K' : Nat} (hK : K < K') {h : xm_H} {P : Option Value → xm_H → Prop} {a0 : Nat} {x1 : Int32} {x2 : Int32} (hr : ∃ fs, h[a0]? = some (.inr (9, fs))) (H :
    xm_L K sX9_earsOf kX9_earsOf 6 [some (.ref a0), some (.int x1), some (.int x2), some (.int (0 : Int32)), some (.int (-2 : Int32)), some (.int (0 : Int32)), none] [] h P) :
    xm_Call K' sX9_earsOf 9 [.ref a0, .int x1, .int x2] h P :=
  xm_call_of (C := kX9_earsOf) hK (by decide +kernel) rfl (Nat.le_of_ble_eq_true rfl) (Or.inr ⟨a0, hr.choose, rfl, hr.choose_spec⟩) (xX9_earsOf_0 H)

set_option maxRecDepth 100000 in
set_option maxHeartbeats 4000000 in
theorem xX9_earsOf_6 {K : Nat} {h : xm_H} {P : Option Value → xm_H → Prop} {a0 : Nat} {x1 : Int32} {x2 : Int32} {x3 : Int32} {x4 : Int32} {x5 : Int32} (H :
    xm_Call K sX9_everybody 9 [.ref a0] h (xm_pi fun c2 h1 =>
      (if c2 < x5 then
        (if x2 = 0 then
          P (some (.int x3)) h1
        else
          P (some (.int x4)) h1)
      else
        xm_L K sX9_earsOf kX9_earsOf 12 [some (.ref a0), some (.int x1), some (.int x2), some (.int x3), some (.int x4), some (.int x5), some (.int (0 : Int32))] [] h1 P))) :
    xm_L K sX9_earsOf kX9_earsOf 6 [some (.ref a0), some (.int x1), some (.int x2), some (.int x3), some (.int x4), some (.int x5), none] [] h P :=
  xm_run (fun _ _ h => h) oX9_earsOf 10 6 0 0 [some (.ref a0), some (.int x1), some (.int x2), some (.int x3), some (.int x4), some (.int x5), none] [] h H

set_option maxRecDepth 100000 in
set_option maxHeartbeats 4000000 in
theorem xX9_earsOf_12 {K : Nat} {h : xm_H} {P : Option Value → xm_H → Prop} {a0 : Nat} {x1 : Int32} {x2 : Int32} {x3 : Int32} {x4 : Int32} {x5 : Int32} {x6 : Int32} (H :
    ∃ f1, xm_fld h a0 9 1 = some (.int f1) ∧ /- many -/
    (if x6 < f1 then
      ∃ q2, xm_fld h a0 9 32 = some (.ref q2) ∧ /- heard1 -/
      xm_Call K sX9_has 99 [.int x5, .int x6] h (xm_pi fun c4 h3 =>
        (if c4 = 0 then
          ∃ h5, xm_sto h3 0 q2 x6 (0 : Int32) = some h5 ∧
          xm_L K sX9_earsOf kX9_earsOf 12 [some (.ref a0), some (.int x1), some (.int x2), some (.int x3), some (.int x4), some (.int x5), some (.int (x6 + (1 : Int32)))] [] h5 P
        else
          ∃ h6, xm_sto h3 0 q2 x6 (1 : Int32) = some h6 ∧
          xm_L K sX9_earsOf kX9_earsOf 12 [some (.ref a0), some (.int x1), some (.int x2), some (.int x3), some (.int x4), some (.int x5), some (.int (x6 + (1 : Int32)))] [] h6 P))
    else
      xm_Call K sX9_wrongTwo 9 [.ref a0, .int x1] h (xm_pi fun c8 h7 =>
        (if c8 < 0 then
          (if x3 = 0 then
            xm_L K sX9_earsOf kX9_earsOf 6 [some (.ref a0), some (.int x1), some (.int x2), some (.int (x3 + (1 : Int32))), some (.int x5), some (.int (x5 + (1 : Int32))), none] [] h7 P
          else
            xm_L K sX9_earsOf kX9_earsOf 6 [some (.ref a0), some (.int x1), some (.int x2), some (.int (x3 + (1 : Int32))), some (.int x4), some (.int (x5 + (1 : Int32))), none] [] h7 P)
        else
          xm_L K sX9_earsOf kX9_earsOf 6 [some (.ref a0), some (.int x1), some (.int x2), some (.int x3), some (.int x4), some (.int (x5 + (1 : Int32))), none] [] h7 P)))) :
    xm_L K sX9_earsOf kX9_earsOf 12 [some (.ref a0), some (.int x1), some (.int x2), some (.int x3), some (.int x4), some (.int x5), some (.int x6)] [] h P :=
  xm_run (fun _ _ h => h) oX9_earsOf 17 12 0 0 [some (.ref a0), some (.int x1), some (.int x2), some (.int x3), some (.int x4), some (.int x5), some (.int x6)] [] h H

def kX9_fits : List xm_I := [
  i_0 0 (.iload_n 1) 1 none,
  i_m 1 (.invokestatic 136) 3 none 1 99 [1117, 1118, 117, 1119] 0 sX9_isShelf,
  i_j 4 (.ifCond .eq 32) 3 none 18,
  i_0 7 (.iload_n 3) 1 none,
  i_v 8 (.iconst 0) 1 none 0 [],
  i_v 9 (.iconst 5) 1 none 5 [],
  i_m 10 (.invokestatic 128) 3 none 3 99 [1106, 1107, 117, 1108] 0 sX9_in,
  i_j 13 (.ifCond .eq 23) 3 none 18,
  i_0 16 (.iload_n 3) 1 none,
  i_v 17 (.iconst 2) 1 none 2 [],
  i_j 18 (.if_icmp .ge 14) 3 none 16,
  i_0 21 (.aload_n 0) 1 none,
  i_0 22 (.iload_n 2) 1 none,
  i_m 23 (.invokevirtual 156) 3 none 1 9 [1141, 1143, 37, 117, 1144] 0 sX9_isOne,
  i_j 26 (.ifCond .eq 10) 3 none 18,
  i_j 29 (.goto 9) 3 none 20,
  i_0 32 (.iload_n 2) 1 none,
  i_j 33 (.ifCond .eq 5) 3 none 20,
  i_v 36 (.iconst (-1)) 1 none (-1) [],
  i_0 37 (.ireturn) 1 none,
  i_0 38 (.aload_n 0) 1 none,
  i_0 39 (.iload_n 1) 1 none,
  i_m 40 (.invokevirtual 350) 3 none 1 9 [1393, 1395, 79, 117, 1396] 0 sX9_rowFault,
  i_j 43 (.ifCond .ge 9) 3 none 28,
  i_0 46 (.aload_n 0) 1 none,
  i_0 47 (.iload_n 1) 1 none,
  i_m 48 (.invokevirtual 350) 3 none 1 9 [1393, 1395, 79, 117, 1396] 0 sX9_rowFault,
  i_0 51 (.ireturn) 1 none,
  i_0 52 (.aload_n 0) 1 none,
  i_m 53 (.invokevirtual 267) 3 none 0 9 [1227, 1229, 53, 117, 1230] 0 sX9_layNow,
  i_0 56 (.iload_n 3) 1 none,
  i_v 57 (.iconst 2) 1 none 2 [],
  i_j 58 (.if_icmp .ge 23) 3 none 45,
  i_0 61 (.iload_n 3) 1 none,
  i_j 62 (.ifCond .ne 12) 3 none 40,
  i_0 65 (.aload_n 0) 1 none,
  i_0 66 (.iload_n 1) 1 none,
  i_0 67 (.iload_n 2) 1 none,
  i_m 68 (.invokevirtual 356) 3 none 2 9 [1413, 1415, 83, 117, 1416] 0 sX9_habitBits,
  i_j 71 (.goto 9) 3 none 44,
  i_0 74 (.aload_n 0) 1 none,
  i_0 75 (.iload_n 1) 1 none,
  i_0 76 (.iload_n 2) 1 none,
  i_m 77 (.invokevirtual 359) 3 none 2 9 [1417, 1419, 84, 117, 1420] 0 sX9_kindBits,
  i_0 80 (.ireturn) 1 none,
  i_0 81 (.iload_n 3) 1 none,
  i_v 82 (.iconst 4) 1 none 4 [],
  i_j 83 (.if_icmp .ge 21) 3 none 58,
  i_0 86 (.aload_n 0) 1 none,
  i_0 87 (.iload_n 1) 1 none,
  i_0 88 (.iload_n 3) 1 none,
  i_v 89 (.iconst 3) 1 none 3 [],
  i_j 90 (.if_icmp .ne 7) 3 none 55,
  i_v 93 (.iconst 1) 1 none 1 [],
  i_j 94 (.goto 4) 3 none 56,
  i_v 97 (.iconst 0) 1 none 0 [],
  i_m 98 (.invokevirtual 362) 3 none 2 9 [1421, 1423, 85, 117, 1424] 0 sX9_snowsOf,
  i_j 101 (.goto 18) 3 none 67,
  i_0 104 (.aload_n 0) 1 none,
  i_0 105 (.iload_n 1) 1 none,
  i_0 106 (.iload_n 3) 1 none,
  i_v 107 (.iconst 5) 1 none 5 [],
  i_j 108 (.if_icmp .ne 7) 3 none 65,
  i_v 111 (.iconst 1) 1 none 1 [],
  i_j 112 (.goto 4) 3 none 66,
  i_v 115 (.iconst 0) 1 none 0 [],
  i_m 116 (.invokevirtual 366) 3 none 2 9 [1425, 1427, 86, 117, 1428] 0 sX9_earsOf,
  i_0 119 (.ireturn) 1 none]
set_option maxRecDepth 100000 in
theorem oX9_fits : xm_ok sX9_fits sX9_fits.1.cls kX9_fits = true := by decide +kernel
set_option maxRecDepth 100000 in
set_option maxHeartbeats 4000000 in
theorem xX9_fits_0 {K : Nat} {h : xm_H} {P : Option Value → xm_H → Prop} {a0 : Nat} {x1 : Int32} {x2 : Int32} {x3 : Int32} (H :
    xm_Call K sX9_isShelf 99 [.int x1] h (xm_pi fun c2 h1 =>
      (if c2 = 0 then
        P (some (.int (-1 : Int32))) h1
      else
        xm_Call K sX9_in 99 [.int x3, .int (0 : Int32), .int (5 : Int32)] h1 (xm_pi fun c4 h3 =>
          (if c4 = 0 then
            P (some (.int (-1 : Int32))) h3
          else
            (if x3 < (2 : Int32) then
              xm_Call K sX9_isOne 9 [.ref a0, .int x2] h3 (xm_pi fun c6 h5 =>
                (if c6 = 0 then
                  P (some (.int (-1 : Int32))) h5
                else
                  xm_Call K sX9_rowFault 9 [.ref a0, .int x1] h5 (xm_pi fun c8 h7 =>
                    (if c8 < 0 then
                      xm_Call K sX9_rowFault 9 [.ref a0, .int x1] h7 (xm_pi fun c10 h9 =>
                        P (some (.int c10)) h9)
                    else
                      xm_Call K sX9_layNow 9 [.ref a0] h7 (xm_pv fun h11 =>
                        (if x3 < (2 : Int32) then
                          (if x3 = 0 then
                            xm_Call K sX9_habitBits 9 [.ref a0, .int x1, .int x2] h11 (xm_pi fun c13 h12 =>
                              P (some (.int c13)) h12)
                          else
                            xm_Call K sX9_kindBits 9 [.ref a0, .int x1, .int x2] h11 (xm_pi fun c15 h14 =>
                              P (some (.int c15)) h14))
                        else
                          (if x3 < (4 : Int32) then
                            (if x3 = (3 : Int32) then
                              xm_Call K sX9_snowsOf 9 [.ref a0, .int x1, .int (1 : Int32)] h11 (xm_pi fun c17 h16 =>
                                P (some (.int c17)) h16)
                            else
                              xm_Call K sX9_snowsOf 9 [.ref a0, .int x1, .int (0 : Int32)] h11 (xm_pi fun c19 h18 =>
                                P (some (.int c19)) h18))
                          else
                            (if x3 = (5 : Int32) then
                              xm_Call K sX9_earsOf 9 [.ref a0, .int x1, .int (1 : Int32)] h11 (xm_pi fun c21 h20 =>
                                P (some (.int c21)) h20)
                            else
                              xm_Call K sX9_earsOf 9 [.ref a0, .int x1, .int (0 : Int32)] h11 (xm_pi fun c23 h22 =>
                                P (some (.int c23)) h22)))))))))
            else
              (if x2 = 0 then
                xm_Call K sX9_rowFault 9 [.ref a0, .int x1] h3 (xm_pi fun c25 h24 =>
                  (if c25 < 0 then
                    xm_Call K sX9_rowFault 9 [.ref a0, .int x1] h24 (xm_pi fun c27 h26 =>
                      P (some (.int c27)) h26)
                  else
                    xm_Call K sX9_layNow 9 [.ref a0] h24 (xm_pv fun h28 =>
                      (if x3 < (2 : Int32) then
                        (if x3 = 0 then
                          xm_Call K sX9_habitBits 9 [.ref a0, .int x1, .int x2] h28 (xm_pi fun c30 h29 =>
                            P (some (.int c30)) h29)
                        else
                          xm_Call K sX9_kindBits 9 [.ref a0, .int x1, .int x2] h28 (xm_pi fun c32 h31 =>
                            P (some (.int c32)) h31))
                      else
                        (if x3 < (4 : Int32) then
                          (if x3 = (3 : Int32) then
                            xm_Call K sX9_snowsOf 9 [.ref a0, .int x1, .int (1 : Int32)] h28 (xm_pi fun c34 h33 =>
                              P (some (.int c34)) h33)
                          else
                            xm_Call K sX9_snowsOf 9 [.ref a0, .int x1, .int (0 : Int32)] h28 (xm_pi fun c36 h35 =>
                              P (some (.int c36)) h35))
                        else
                          (if x3 = (5 : Int32) then
                            xm_Call K sX9_earsOf 9 [.ref a0, .int x1, .int (1 : Int32)] h28 (xm_pi fun c38 h37 =>
                              P (some (.int c38)) h37)
                          else
                            xm_Call K sX9_earsOf 9 [.ref a0, .int x1, .int (0 : Int32)] h28 (xm_pi fun c40 h39 =>
                              P (some (.int c40)) h39)))))))
              else
                P (some (.int (-1 : Int32))) h3))))))) :
    xm_L K sX9_fits kX9_fits 0 [some (.ref a0), some (.int x1), some (.int x2), some (.int x3)] [] h P :=
  xm_run (fun _ _ h => h) oX9_fits 39 0 0 0 [some (.ref a0), some (.int x1), some (.int x2), some (.int x3)] [] h H
set_option maxRecDepth 100000 in
theorem eX9_fits {K K' : Nat} (hK : K < K') {h : xm_H} {P : Option Value → xm_H → Prop} {a0 : Nat} {x1 : Int32} {x2 : Int32} {x3 : Int32} (hr : ∃ fs, h[a0]? = some (.inr (9, fs))) (H :
    xm_Call K sX9_isShelf 99 [.int x1] h (xm_pi fun c2 h1 =>
      (if c2 = 0 then
        P (some (.int (-1 : Int32))) h1
      else
        xm_Call K sX9_in 99 [.int x3, .int (0 : Int32), .int (5 : Int32)] h1 (xm_pi fun c4 h3 =>
          (if c4 = 0 then
            P (some (.int (-1 : Int32))) h3
          else
            (if x3 < (2 : Int32) then
              xm_Call K sX9_isOne 9 [.ref a0, .int x2] h3 (xm_pi fun c6 h5 =>
                (if c6 = 0 then
                  P (some (.int (-1 : Int32))) h5
                else
                  xm_Call K sX9_rowFault 9 [.ref a0, .int x1] h5 (xm_pi fun c8 h7 =>
                    (if c8 < 0 then
                      xm_Call K sX9_rowFault 9 [.ref a0, .int x1] h7 (xm_pi fun c10 h9 =>
                        P (some (.int c10)) h9)
                    else
                      xm_Call K sX9_layNow 9 [.ref a0] h7 (xm_pv fun h11 =>
                        (if x3 < (2 : Int32) then
                          (if x3 = 0 then
                            xm_Call K sX9_habitBits 9 [.ref a0, .int x1, .int x2] h11 (xm_pi fun c13 h12 =>
                              P (some (.int c13)) h12)
                          else
                            xm_Call K sX9_kindBits 9 [.ref a0, .int x1, .int x2] h11 (xm_pi fun c15 h14 =>
                              P (some (.int c15)) h14))
                        else
                          (if x3 < (4 : Int32) then
                            (if x3 = (3 : Int32) then
                              xm_Call K sX9_snowsOf 9 [.ref a0, .int x1, .int (1 : Int32)] h11 (xm_pi fun c17 h16 =>
                                P (some (.int c17)) h16)
                            else
                              xm_Call K sX9_snowsOf 9 [.ref a0, .int x1, .int (0 : Int32)] h11 (xm_pi fun c19 h18 =>
                                P (some (.int c19)) h18))
                          else
                            (if x3 = (5 : Int32) then
                              xm_Call K sX9_earsOf 9 [.ref a0, .int x1, .int (1 : Int32)] h11 (xm_pi fun c21 h20 =>
                                P (some (.int c21)) h20)
                            else
                              xm_Call K sX9_earsOf 9 [.ref a0, .int x1, .int (0 : Int32)] h11 (xm_pi fun c23 h22 =>
                                P (some (.int c23)) h22)))))))))
            else
              (if x2 = 0 then
                xm_Call K sX9_rowFault 9 [.ref a0, .int x1] h3 (xm_pi fun c25 h24 =>
                  (if c25 < 0 then
                    xm_Call K sX9_rowFault 9 [.ref a0, .int x1] h24 (xm_pi fun c27 h26 =>
                      P (some (.int c27)) h26)
                  else
                    xm_Call K sX9_layNow 9 [.ref a0] h24 (xm_pv fun h28 =>
                      (if x3 < (2 : Int32) then
                        (if x3 = 0 then
                          xm_Call K sX9_habitBits 9 [.ref a0, .int x1, .int x2] h28 (xm_pi fun c30 h29 =>
                            P (some (.int c30)) h29)
                        else
                          xm_Call K sX9_kindBits 9 [.ref a0, .int x1, .int x2] h28 (xm_pi fun c32 h31 =>
                            P (some (.int c32)) h31))
                      else
                        (if x3 < (4 : Int32) then
                          (if x3 = (3 : Int32) then
                            xm_Call K sX9_snowsOf 9 [.ref a0, .int x1, .int (1 : Int32)] h28 (xm_pi fun c34 h33 =>
                              P (some (.int c34)) h33)
                          else
                            xm_Call K sX9_snowsOf 9 [.ref a0, .int x1, .int (0 : Int32)] h28 (xm_pi fun c36 h35 =>
                              P (some (.int c36)) h35))
                        else
                          (if x3 = (5 : Int32) then
                            xm_Call K sX9_earsOf 9 [.ref a0, .int x1, .int (1 : Int32)] h28 (xm_pi fun c38 h37 =>
                              P (some (.int c38)) h37)
                          else
                            xm_Call K sX9_earsOf 9 [.ref a0, .int x1, .int (0 : Int32)] h28 (xm_pi fun c40 h39 =>
                              P (some (.int c40)) h39)))))))
              else
                P (some (.int (-1 : Int32))) h3))))))) :
    xm_Call K' sX9_fits 9 [.ref a0, .int x1, .int x2, .int x3] h P :=
  xm_call_of (C := kX9_fits) hK (by decide +kernel) rfl (Nat.le_of_ble_eq_true rfl) (Or.inr ⟨a0, hr.choose, rfl, hr.choose_spec⟩) (xX9_fits_0 H)

def kX9_leastSaid : List xm_I := [
  i_v 0 (.bipush (-2)) 2 none (-2) [],
  i_0 2 (.istore_n 1) 1 none,
  i_v 3 (.iconst 0) 1 none 0 [],
  i_0 4 (.istore_n 2) 1 none,
  i_0 5 (.iload_n 2) 1 (some [true, true, true, false]),
  i_0 6 (.aload_n 0) 1 none,
  i_m 7 (.invokevirtual 288) 3 none 0 9 [1278, 1280, 64, 117, 1281] 0 sX9_everybody,
  i_j 10 (.if_icmp .gt 75) 3 none 44,
  i_0 13 (.iload_n 1) 1 none,
  i_j 14 (.ifCond .lt 14) 3 none 15,
  i_0 17 (.iload_n 2) 1 none,
  i_m 18 (.invokestatic 320) 3 none 1 99 [1354, 1355, 117, 1356] 0 sX9_bitsOf,
  i_0 21 (.iload_n 1) 1 none,
  i_j 22 (.if_icmp .lt 6) 3 none 15,
  i_j 25 (.goto 54) 3 none 42,
  i_0 28 (.aload_n 0) 1 none,
  i_m 29 (.invokevirtual 267) 3 none 0 9 [1227, 1229, 53, 117, 1230] 0 sX9_layNow,
  i_v 32 (.iconst 0) 1 none 0 [],
  i_0 33 (.istore_n 3) 1 none,
  i_0 34 (.iload_n 3) 1 (some [true, true, true, true]),
  i_0 35 (.aload_n 0) 1 none,
  i_f 36 (.getfield 125) 3 none 9 1 [926] 0,
  i_j 39 (.if_icmp .ge 24) 3 none 34,
  i_0 42 (.iload_n 2) 1 none,
  i_0 43 (.iload_n 3) 1 none,
  i_m 44 (.invokestatic 279) 3 none 2 99 [1286, 1287, 117, 1288] 0 sX9_has,
  i_j 47 (.ifCond .eq 10) 3 none 32,
  i_0 50 (.aload_n 0) 1 none,
  i_f 51 (.getfield 75) 3 none 9 31 [956] 1,
  i_0 54 (.iload_n 3) 1 none,
  i_v 55 (.iconst 0) 1 none 0 [],
  i_0 56 (.iastore) 1 none,
  i_v 57 (.iinc 3 1) 3 none 1 [],
  i_j 60 (.goto (-26)) 3 none 19,
  i_0 63 (.aload_n 0) 1 none,
  i_m 64 (.invokevirtual 285) 3 none 0 9 [1270, 1272, 62, 117, 1273] 0 sX9_assess,
  i_0 67 (.aload_n 0) 1 none,
  i_f 68 (.getfield 273) 3 none 9 39 [964] 0,
  i_j 71 (.ifCond .ne 8) 3 none 42,
  i_0 74 (.iload_n 2) 1 none,
  i_m 75 (.invokestatic 320) 3 none 1 99 [1354, 1355, 117, 1356] 0 sX9_bitsOf,
  i_0 78 (.istore_n 1) 1 none,
  i_v 79 (.iinc 2 1) 3 none 1 [],
  i_j 82 (.goto (-77)) 3 none 4,
  i_0 85 (.iload_n 1) 1 none,
  i_0 86 (.ireturn) 1 none]
set_option maxRecDepth 100000 in
theorem oX9_leastSaid : xm_ok sX9_leastSaid sX9_leastSaid.1.cls kX9_leastSaid = true := by decide +kernel
set_option maxRecDepth 100000 in
set_option maxHeartbeats 4000000 in
theorem xX9_leastSaid_0 {K : Nat} {h : xm_H} {P : Option Value → xm_H → Prop} {a0 : Nat} (H :
    xm_L K sX9_leastSaid kX9_leastSaid 4 [some (.ref a0), some (.int (-2 : Int32)), some (.int (0 : Int32)), none] [] h P) :
    xm_L K sX9_leastSaid kX9_leastSaid 0 [some (.ref a0), none, none, none] [] h P :=
  xm_run (fun _ _ h => h) oX9_leastSaid 5 0 0 0 [some (.ref a0), none, none, none] [] h H
set_option maxRecDepth 100000 in
theorem eX9_leastSaid {K K' : Nat} (hK : K < K') {h : xm_H} {P : Option Value → xm_H → Prop} {a0 : Nat} (hr : ∃ fs, h[a0]? = some (.inr (9, fs))) (H :
    xm_L K sX9_leastSaid kX9_leastSaid 4 [some (.ref a0), some (.int (-2 : Int32)), some (.int (0 : Int32)), none] [] h P) :
    xm_Call K' sX9_leastSaid 9 [.ref a0] h P :=
  xm_call_of (C := kX9_leastSaid) hK (by decide +kernel) rfl (Nat.le_of_ble_eq_true rfl) (Or.inr ⟨a0, hr.choose, rfl, hr.choose_spec⟩) (xX9_leastSaid_0 H)

set_option maxRecDepth 100000 in
set_option maxHeartbeats 4000000 in
theorem xX9_leastSaid_4 {K : Nat} {h : xm_H} {P : Option Value → xm_H → Prop} {a0 : Nat} {x1 : Int32} {x2 : Int32} (H :
    xm_Call K sX9_everybody 9 [.ref a0] h (xm_pi fun c2 h1 =>
      (if c2 < x2 then
        P (some (.int x1)) h1
      else
        (if x1 < 0 then
          xm_Call K sX9_layNow 9 [.ref a0] h1 (xm_pv fun h3 =>
            xm_L K sX9_leastSaid kX9_leastSaid 19 [some (.ref a0), some (.int x1), some (.int x2), some (.int (0 : Int32))] [] h3 P)
        else
          xm_Call K sX9_bitsOf 99 [.int x2] h1 (xm_pi fun c5 h4 =>
            (if c5 < x1 then
              xm_Call K sX9_layNow 9 [.ref a0] h4 (xm_pv fun h6 =>
                xm_L K sX9_leastSaid kX9_leastSaid 19 [some (.ref a0), some (.int x1), some (.int x2), some (.int (0 : Int32))] [] h6 P)
            else
              xm_L K sX9_leastSaid kX9_leastSaid 4 [some (.ref a0), some (.int x1), some (.int (x2 + (1 : Int32))), none] [] h4 P)))))) :
    xm_L K sX9_leastSaid kX9_leastSaid 4 [some (.ref a0), some (.int x1), some (.int x2), none] [] h P :=
  xm_run (fun _ _ h => h) oX9_leastSaid 15 4 0 0 [some (.ref a0), some (.int x1), some (.int x2), none] [] h H

set_option maxRecDepth 100000 in
set_option maxHeartbeats 4000000 in
theorem xX9_leastSaid_19 {K : Nat} {h : xm_H} {P : Option Value → xm_H → Prop} {a0 : Nat} {x1 : Int32} {x2 : Int32} {x3 : Int32} (H :
    ∃ f1, xm_fld h a0 9 1 = some (.int f1) ∧ /- many -/
    (if x3 < f1 then
      xm_Call K sX9_has 99 [.int x2, .int x3] h (xm_pi fun c3 h2 =>
        (if c3 = 0 then
          xm_L K sX9_leastSaid kX9_leastSaid 19 [some (.ref a0), some (.int x1), some (.int x2), some (.int (x3 + (1 : Int32)))] [] h2 P
        else
          ∃ q4, xm_fld h2 a0 9 31 = some (.ref q4) ∧ /- habit1 -/
          ∃ h5, xm_sto h2 0 q4 x3 (0 : Int32) = some h5 ∧
          xm_L K sX9_leastSaid kX9_leastSaid 19 [some (.ref a0), some (.int x1), some (.int x2), some (.int (x3 + (1 : Int32)))] [] h5 P))
    else
      xm_Call K sX9_assess 9 [.ref a0] h (xm_pv fun h6 =>
        ∃ f7, xm_fld h6 a0 9 39 = some (.int f7) ∧ /- assessedAll -/
        (if f7 = 0 then
          xm_Call K sX9_bitsOf 99 [.int x2] h6 (xm_pi fun c9 h8 =>
            xm_L K sX9_leastSaid kX9_leastSaid 4 [some (.ref a0), some (.int c9), some (.int (x2 + (1 : Int32))), none] [] h8 P)
        else
          xm_L K sX9_leastSaid kX9_leastSaid 4 [some (.ref a0), some (.int x1), some (.int (x2 + (1 : Int32))), none] [] h6 P)))) :
    xm_L K sX9_leastSaid kX9_leastSaid 19 [some (.ref a0), some (.int x1), some (.int x2), some (.int x3)] [] h P :=
  xm_run (fun _ _ h => h) oX9_leastSaid 16 19 0 0 [some (.ref a0), some (.int x1), some (.int x2), some (.int x3)] [] h H

