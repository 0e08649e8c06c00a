def xm_1q (st : List Value) (f : Value → List Value → Prop) : Prop := match st with
  | .ref x :: q => f (.ref x) q
  | .null :: q => f .null q
  | _ => False
theorem xm_1q_e {st : List Value} {f : Value → List Value → Prop} (H : xm_1q st f) : ∃ v q, st = v :: q ∧ ((∃ x, v = .ref x) ∨ v = .null) ∧ f v q := by
  unfold xm_1q at H; split at H
  · exact ⟨_, _, rfl, Or.inl ⟨_, rfl⟩, H⟩
  · exact ⟨_, _, rfl, Or.inr rfl, H⟩
  · exact H.elim
def xm_vv (n : Nat) (v : Value) : Bool := match v with
  | .ref k => decide (k < n) || decide (1000 ≤ k)
  | _ => true
def xm_ve (n : Nat) (e : xm_E) : Bool := match e with
  | .inr (_, fs) => fs.all (xm_vv n)
  | .inl (_, m, .inr (.inr (.inr (.inr f)))) => (List.range m).all (fun j => match f j with
    | some k => decide (k < n)
    | none => true)
  | _ => true
def xm_vo (n : Nat) (q : Option Value) : Bool := match q with
  | some v => xm_vv n v
  | none => true
/-- every reference is one to a cell that is there, and m more cells fit -/
def xm_va (h : xm_H) (ls : List (Option Value)) (st : List Value) (m : Nat) : Prop := h.all (xm_ve h.length) = true ∧ ls.all (xm_vo h.length) = true ∧ st.all (xm_vv h.length) = true ∧ h.length + m ≤ 1000
abbrev xm_K : Type := Nat → Nat → Nat → List (Option Value) → List Value → xm_H → Prop
def xm_cl (st : List Value) (m : Nat) (f : List Value → List Value → Prop) : Prop := if m ≤ st.length ∧ ((st.drop m).map (fun v => v.category)).sum ≤ 8 then f (st.take m).reverse (st.drop m) else False
def xm_af (rt : Option FieldType) (rest : List Value) (g : List Value → xm_H → Prop) : Option Value → xm_H → Prop := match rt with
  | none => xm_pv (fun h1 => g rest h1)
  | some .int => xm_pi (fun x h1 => g (.int x :: rest) h1)
  | some .boolean => xm_pi (fun x h1 => g (.int x :: rest) h1)
  | some .long => xm_pl (fun x h1 => g (.long x :: rest) h1)
  | some (.object _) => xm_pq (fun h1 => g (.null :: rest) h1) (fun x h1 => g (.ref x :: rest) h1)
  | _ => fun _ _ => False
def xm_sw (x : Int32) (sw : List (Int32 × Nat)) (d : Nat) (f : Nat → Prop) : Prop := match sw with
  | [] => f d
  | q :: r => if x = q.1 then f q.2 else xm_sw x r d f
def xm_call (K : Nat) (S T : xm_S) (m ro k uc us : Nat) (ls : List (Option Value)) (st : List Value) (h : xm_H) (g : xm_K) : Prop :=
  xm_cl st m (fun av rest => if T.2.2.2.2.1 = 0 then (if T.2.2.2.2.2 = 0 ∧ T.2.2.1 ≤ 45 then xm_Call K T ro av h (xm_af T.2.2.2.1 rest (fun st1 h1 => g (k + 1) uc us ls st1 h1)) else False)
    else (uc + T.2.2.2.2.1 ≤ S.2.2.2.2.1 ∧ us + T.2.2.2.2.2 ≤ S.2.2.2.2.2 ∧ T.2.2.1 ≤ 45) ∧ xm_va h ls rest T.2.2.2.2.1 ∧ xm_Call K T ro av h (xm_af T.2.2.2.1 rest (fun st1 h1 => g (k + 1) (uc + T.2.2.2.2.1) (us + T.2.2.2.2.2) ls st1 h1)))
/-- the fields of a new object -/
def xm_df (a : Nat) : List Value := match a with
  | 0 => (List.range 3).map (fun j => defaultValue (tyX0 j))
  | 1 => (List.range 5).map (fun j => defaultValue (tyX1 j))
  | 2 => (List.range 5).map (fun j => defaultValue (tyX2 j))
  | 3 => (List.range 5).map (fun j => defaultValue (tyX3 j))
  | 4 => (List.range 11).map (fun j => defaultValue (tyX4 j))
  | 5 => (List.range 4).map (fun j => defaultValue (tyX5 j))
  | 6 => (List.range 3).map (fun j => defaultValue (tyX6 j))
  | 7 => (List.range 2).map (fun j => defaultValue (tyX7 j))
  | 8 => (List.range 13).map (fun j => defaultValue (tyX8 j))
  | 9 => (List.range 58).map (fun j => defaultValue (tyX9 j))
  | _ => []
def xm_za (t n : Nat) : xm_E := match t with
  | 3 => .inl (3, n, .inr (.inl (fun _ => 0)))
  | t => .inl (t, n, .inl (fun _ => 0))
def xm_cpy (l : Nat) (h : xm_H) (st : List Value) (f : List Value → xm_H → Prop) : Prop := match st with
  | .int n :: .int dp :: .ref a1 :: .int sp :: .ref a0 :: q => if (q.map (fun v => v.category)).sum ≤ 8 then ∃ h1, (if l = 0 then xm_cpI h a0 sp a1 dp n else xm_cpL h a0 sp a1 dp n) = some h1 ∧ f q h1 else False
  | _ => False
def xm_gf (h : xm_H) (o a b : Nat) (v : Int32) (f : Value → Prop) : Prop := if v = 0 then ∃ x, xm_fld h o a b = some (.int x) ∧ f (.int x) else ∃ x, xm_fld h o a b = some (.ref x) ∧ f (.ref x)
def xm_e1 (st : List Value) (f : Value → Prop) : Prop := match st with
  | [y] => f y
  | _ => False
theorem xm_e1_e {st : List Value} {f : Value → Prop} (H : xm_e1 st f) : ∃ y, st = [y] ∧ f y := by
  unfold xm_e1 at H; split at H
  · exact ⟨_, rfl, H⟩
  · exact H.elim
/-- what must hold ahead of an instruction -/
def xm_wp (O : xm_O) (K : Nat) (S : xm_S) (i : Instr) (x : xm_X) (k uc us : Nat) (ls : List (Option Value)) (st : List Value) (h : xm_H) (P : Option Value → xm_H → Prop) (g : xm_K) : Prop := match x with
  | (a, b, _, v, w, sw, T) => match i with
    | .iconst _ => g (k + 1) uc us ls (.int v :: st) h
    | .bipush _ => g (k + 1) uc us ls (.int v :: st) h
    | .sipush _ => g (k + 1) uc us ls (.int v :: st) h
    | .ldc _ => g (k + 1) uc us ls (.int v :: st) h
    | .ldc_w _ => g (k + 1) uc us ls (.int v :: st) h
    | .lconst _ => g (k + 1) uc us ls (.long w :: st) h
    | .ldc2_w _ => g (k + 1) uc us ls (.long w :: st) h
    | .aconst_null => g (k + 1) uc us ls (.null :: st) h
    | .iload_n n => xm_li ls n (fun y => g (k + 1) uc us ls (.int y :: st) h)
    | .iload n => xm_li ls n (fun y => g (k + 1) uc us ls (.int y :: st) h)
    | .lload_n n => xm_ll ls n (fun y => g (k + 1) uc us ls (.long y :: st) h)
    | .lload n => xm_ll ls n (fun y => g (k + 1) uc us ls (.long y :: st) h)
    | .aload_n n => xm_lr ls n (fun y => g (k + 1) uc us ls (y :: st) h)
    | .aload n => xm_lr ls n (fun y => g (k + 1) uc us ls (y :: st) h)
    | .istore_n n => xm_1i st (fun y q => if (n : Nat) < ls.length then g (k + 1) uc us (xm_st1 ls n (.int y)) q h else False)
    | .istore n => xm_1i st (fun y q => if n < ls.length then g (k + 1) uc us (xm_st1 ls n (.int y)) q h else False)
    | .lstore n => xm_1l st (fun y q => if n + 1 < ls.length then g (k + 1) uc us (xm_st2 ls n (.long y)) q h else False)
    | .astore_n n => xm_1q st (fun y q => if (n : Nat) < ls.length then g (k + 1) uc us (xm_st1 ls n y) q h else False)
    | .astore n => xm_1q st (fun y q => if n < ls.length then g (k + 1) uc us (xm_st1 ls n y) q h else False)
    | .iinc n _ => xm_li ls n (fun y => g (k + 1) uc us (xm_st1 ls n (.int (y + v))) st h)
    | .iadd => xm_2i st (fun x y q => g (k + 1) uc us ls (.int (x + y) :: q) h)
    | .isub => xm_2i st (fun x y q => g (k + 1) uc us ls (.int (x - y) :: q) h)
    | .imul => xm_2i st (fun x y q => g (k + 1) uc us ls (.int (x * y) :: q) h)
    | .iand => xm_2i st (fun x y q => g (k + 1) uc us ls (.int (x &&& y) :: q) h)
    | .ior => xm_2i st (fun x y q => g (k + 1) uc us ls (.int (x ||| y) :: q) h)
    | .ixor => xm_2i st (fun x y q => g (k + 1) uc us ls (.int (x ^^^ y) :: q) h)
    | .ishl => xm_2i st (fun x y q => g (k + 1) uc us ls (.int (x <<< (y &&& 31)) :: q) h)
    | .ishr => xm_2i st (fun x y q => g (k + 1) uc us ls (.int (x >>> (y &&& 31)) :: q) h)
    | .iushr => xm_2i st (fun x y q => g (k + 1) uc us ls (.int ((x.toUInt32 >>> (y.toUInt32 &&& Int32.toUInt32 31)).toInt32) :: q) h)
    | .idiv => xm_2i st (fun x y q => ¬ y = 0 ∧ g (k + 1) uc us ls (.int (x / y) :: q) h)
    | .irem => xm_2i st (fun x y q => ¬ y = 0 ∧ g (k + 1) uc us ls (.int (x - x / y * y) :: q) h)
    | .ineg => xm_1i st (fun x q => g (k + 1) uc us ls (.int (-x) :: q) h)
    | .ladd => xm_2l st (fun x y q => g (k + 1) uc us ls (.long (x + y) :: q) h)
    | .land => xm_2l st (fun x y q => g (k + 1) uc us ls (.long (x &&& y) :: q) h)
    | .lor => xm_2l st (fun x y q => g (k + 1) uc us ls (.long (x ||| y) :: q) h)
    | .lshl => xm_1i st (fun y q => xm_1l q (fun x q => g (k + 1) uc us ls (.long (x <<< (y.toInt64 &&& 63)) :: q) h))
    | .lcmp => xm_2l st (fun x y q => g (k + 1) uc us ls (.int (lg_cmp x y) :: q) h)
    | .i2l => xm_1i st (fun x q => g (k + 1) uc us ls (.long x.toInt64 :: q) h)
    | .l2i => xm_1l st (fun x q => g (k + 1) uc us ls (.int x.toInt32 :: q) h)
    | .i2b => xm_1i st (fun x q => g (k + 1) uc us ls (.int x.toInt8.toInt32 :: q) h)
    | .i2s => xm_1i st (fun x q => g (k + 1) uc us ls (.int x.toInt16.toInt32 :: q) h)
    | .dup => xm_1c st (fun y q => g (k + 1) uc us ls (y :: y :: q) h)
    | .dup2 => xm_1c st (fun y q => xm_1c q (fun z q => g (k + 1) uc us ls (y :: z :: y :: z :: q) h))
    | .pop => xm_1c st (fun _ q => g (k + 1) uc us ls q h)
    | .ifCond .eq _ => xm_1i st (fun x q => if x = 0 then g a uc us ls q h else g (k + 1) uc us ls q h)
    | .ifCond .ne _ => xm_1i st (fun x q => if x = 0 then g (k + 1) uc us ls q h else g a uc us ls q h)
    | .ifCond .lt _ => xm_1i st (fun x q => if x < 0 then g a uc us ls q h else g (k + 1) uc us ls q h)
    | .ifCond .ge _ => xm_1i st (fun x q => if x < 0 then g (k + 1) uc us ls q h else g a uc us ls q h)
    | .ifCond .gt _ => xm_1i st (fun x q => if 0 < x then g a uc us ls q h else g (k + 1) uc us ls q h)
    | .ifCond .le _ => xm_1i st (fun x q => if 0 < x then g (k + 1) uc us ls q h else g a uc us ls q h)
    | .if_icmp .eq _ => xm_2i st (fun x y q => if x = y then g a uc us ls q h else g (k + 1) uc us ls q h)
    | .if_icmp .ne _ => xm_2i st (fun x y q => if x = y then g (k + 1) uc us ls q h else g a uc us ls q h)
    | .if_icmp .lt _ => xm_2i st (fun x y q => if x < y then g a uc us ls q h else g (k + 1) uc us ls q h)
    | .if_icmp .ge _ => xm_2i st (fun x y q => if x < y then g (k + 1) uc us ls q h else g a uc us ls q h)
    | .if_icmp .gt _ => xm_2i st (fun x y q => if y < x then g a uc us ls q h else g (k + 1) uc us ls q h)
    | .if_icmp .le _ => xm_2i st (fun x y q => if y < x then g (k + 1) uc us ls q h else g a uc us ls q h)
    | .ifnull _ => xm_1c st (fun y q => match y with
      | .null => g a uc us ls q h
      | .ref _ => g (k + 1) uc us ls q h
      | _ => False)
    | .ifnonnull _ => xm_1c st (fun y q => match y with
      | .null => g (k + 1) uc us ls q h
      | .ref _ => g a uc us ls q h
      | _ => False)
    | .goto _ => g a uc us ls st h
    | .tableswitch .. => xm_1i st (fun x q => xm_sw x sw a (fun t => g t uc us ls q h))
    | .lookupswitch .. => xm_1i st (fun x q => xm_sw x sw a (fun t => g t uc us ls q h))
    | .getfield _ => xm_1r st (fun o q => xm_gf h o a b v (fun y => g (k + 1) uc us ls (y :: q) h))
    | .putfield _ => if v = 0 then xm_1i st (fun y q => xm_1r q (fun o q => ∃ h1, xm_put h o a b (.int y) = some h1 ∧ g (k + 1) uc us ls q h1)) else if v = 2 then xm_1i st (fun y q => if y = 0 ∨ y = 1 then xm_1r q (fun o q => ∃ h1, xm_put h o a b (.int y) = some h1 ∧ g (k + 1) uc us ls q h1) else False) else xm_1r st (fun y q => xm_1r q (fun o q => ∃ h1, xm_put h o a b (.ref y) = some h1 ∧ g (k + 1) uc us ls q h1))
    | .getstatic _ => g (k + 1) uc us ls (.ref (1000 + a) :: st) h
    | .iaload => xm_1i st (fun j q => xm_1r q (fun o q => ∃ y, xm_ld O h 0 o j = some y ∧ g (k + 1) uc us ls (.int y :: q) h))
    | .baload => xm_1i st (fun j q => xm_1r q (fun o q => ∃ y, xm_ld O h 1 o j = some y ∧ g (k + 1) uc us ls (.int y :: q) h))
    | .saload => xm_1i st (fun j q => xm_1r q (fun o q => ∃ y, xm_ld O h 2 o j = some y ∧ g (k + 1) uc us ls (.int y :: q) h))
    | .laload => xm_1i st (fun j q => xm_1r q (fun o q => ∃ y, xm_ldL h o j = some y ∧ g (k + 1) uc us ls (.long y :: q) h))
    | .aaload => xm_1i st (fun j q => xm_1r q (fun o q => ∃ y, xm_ldR h o j = some y ∧ g (k + 1) uc us ls (.ref y :: q) h))
    | .iastore => xm_2i st (fun j y q => xm_1r q (fun o q => ∃ h1, xm_sto h 0 o j y = some h1 ∧ g (k + 1) uc us ls q h1))
    | .bastore => xm_2i st (fun j y q => xm_1r q (fun o q => ∃ h1, xm_sto h 1 o j y = some h1 ∧ g (k + 1) uc us ls q h1))
    | .sastore => xm_2i st (fun j y q => xm_1r q (fun o q => ∃ h1, xm_sto h 2 o j y = some h1 ∧ g (k + 1) uc us ls q h1))
    | .lastore => xm_1l st (fun y q => xm_1i q (fun j q => xm_1r q (fun o q => ∃ h1, xm_stoL h o j y = some h1 ∧ g (k + 1) uc us ls q h1)))
    | .aastore => xm_1r st (fun y q => xm_1i q (fun j q => xm_1r q (fun o q => ∃ h1, xm_stoR h o j y = some h1 ∧ g (k + 1) uc us ls q h1)))
    | .arraylength => xm_1r st (fun o q => ∃ y, xm_len O h o = some y ∧ g (k + 1) uc us ls (.int y :: q) h)
    | .new _ => (uc + 1 ≤ S.2.2.2.2.1 ∧ us + b ≤ S.2.2.2.2.2) ∧ xm_va h ls st 1 ∧ g (k + 1) (uc + 1) (us + b) ls (.ref h.length :: st) (h ++ [.inr (a, xm_df a)])
    | .newarray _ => xm_1i st (fun n q => if n = v then (uc + 1 ≤ S.2.2.2.2.1 ∧ us + b ≤ S.2.2.2.2.2) ∧ xm_va h ls q 1 ∧ g (k + 1) (uc + 1) (us + b) ls (.ref h.length :: q) (h ++ [xm_za a b]) else False)
    | .anewarray _ => xm_1i st (fun n q => if n = v then (uc + 1 ≤ S.2.2.2.2.1 ∧ us + b ≤ S.2.2.2.2.2) ∧ xm_va h ls q 1 ∧ g (k + 1) (uc + 1) (us + b) ls (.ref h.length :: q) (h ++ [.inl (4, b, .inr (.inr (.inr (.inr (fun _ => none)))))]) else False)
    | .invokestatic _ => if v = 3 then xm_cpy b h st (fun q h1 => g (k + 1) uc us ls q h1) else xm_call K S T a 99 k uc us ls st h g
    | .invokevirtual _ => xm_call K S T (a + 1) b k uc us ls st h g
    | .invokespecial _ => if v = 2 then xm_1r st (fun _ q => if (q.map (fun v => v.category)).sum ≤ 8 then g (k + 1) uc us ls q h else False) else xm_call K S T (a + 1) b k uc us ls st h g
    | .ireturn => match S.2.2.2.1 with
      | some .int => xm_e1 st (fun y => match y with
        | .int x => P (some (.int x)) h
        | _ => False)
      | some .boolean => xm_e1 st (fun y => match y with
        | .int x => if x = 0 ∨ x = 1 then P (some (.int x)) h else False
        | _ => False)
      | _ => False
    | .lreturn => match S.2.2.2.1 with
      | some .long => xm_e1 st (fun y => match y with
        | .long x => P (some (.long x)) h
        | _ => False)
      | _ => False
    | .areturn => match S.2.2.2.1 with
      | some (.object _) => xm_e1 st (fun y => match y with
        | .ref x => P (some (.ref x)) h
        | .null => P (some .null) h
        | _ => False)
      | _ => False
    | .return_ => match S.2.2.2.1 with
      | none => (match st with
        | [] => P none h
        | _ => False)
      | _ => False
    | _ => False

def xm_pc (C : List xm_I) (k : Nat) : Nat := match C[k]? with
  | some q => q.1
  | none => 0
def xm_w1 (pl : List Nat) (n : Nat) (w : Cond) : Bool := decide (lw_tbl[pl.getD n 0]? = some w) && goodWord w
def xm_w2 (pl : List Nat) (n : Nat) (w : Cond) : Bool := decide (lw_tbl[pl.getD n 0]? = some w) && xm_isN w
theorem xm_w1_e {pl : List Nat} {n : Nat} {w : Cond} (h : xm_w1 pl n w = true) : w ∈ xm_tb := by
  unfold xm_w1 at h
  rw [Bool.and_eq_true, decide_eq_true_eq] at h
  exact List.mem_filter.mpr ⟨List.mem_of_getElem? h.1, h.2⟩
theorem xm_w2_e {pl : List Nat} {n : Nat} {w : Cond} (h : xm_w2 pl n w = true) : w ∈ lw_tbl ∧ xm_isN w = true := by
  unfold xm_w2 at h
  rw [Bool.and_eq_true, decide_eq_true_eq] at h
  exact ⟨List.mem_of_getElem? h.1, h.2⟩
def xm_end (i : Instr) : Bool := match i with
  | .goto _ => true
  | .ireturn => true
  | .lreturn => true
  | .areturn => true
  | .return_ => true
  | .tableswitch .. => true
  | .lookupswitch .. => true
  | _ => false
def xm_fl (a b : Nat) : Option (String × String × String × Bool) := match vwCl[a]? with
  | some (_, T, N) => if b < N then some (T b) else none
  | none => none
def xm_md (T : xm_S) (n : Nat) : Bool := decide (T.1.cls ≠ "java/lang/invoke/MethodHandle") && decide (T.1.cls ≠ "java/lang/invoke/VarHandle") && decide ((parseMethodDescriptor T.1.desc).map (fun d => d.parameters.length) = some n)
def xm_cw (T : xm_S) : Cond := .code T.1 T.2.1 T.2.2.1 T.2.2.2.1
def xm_ptO (ty : Option FieldType) : Bool := match ty with
  | some (.object _) => true
  | some (.array _) => true
  | _ => false
/-- are the row's numbers right -/
def xm_lk (S : xm_S) (own : String) (C : List xm_I) (pc : Nat) (i : Instr) (x : xm_X) : Bool := match x with
  | (a, b, pl, v, w, sw, T) => match i with
    | .iconst n => decide (Int32.ofInt n = v)
    | .bipush n => decide ((Int8.ofInt n).toInt32 = v)
    | .sipush n => decide ((Int16.ofInt n).toInt32 = v)
    | .ldc j => xm_w1 pl 0 (.constant own j v)
    | .ldc_w j => xm_w1 pl 0 (.constant own j v)
    | .lconst n => decide (Int64.ofNat (n : Nat) = w)
    | .ldc2_w j => xm_w1 pl 0 (.constantLong own j w)
    | .iinc _ n => decide (Int32.ofInt n = v)
    | .ifCond _ off => decide ((pc : Int) + off = (xm_pc C a : Int))
    | .if_icmp _ off => decide ((pc : Int) + off = (xm_pc C a : Int))
    | .ifnull off => decide ((pc : Int) + off = (xm_pc C a : Int))
    | .ifnonnull off => decide ((pc : Int) + off = (xm_pc C a : Int))
    | .goto off => decide ((pc : Int) + off = (xm_pc C a : Int))
    | .tableswitch d lo hi offs => decide ((pc : Int) + d = (xm_pc C a : Int)) && decide (hi = lo + offs.size - 1) && decide (sw.map (fun q => (q.1.toInt, (xm_pc C q.2 : Int))) = offs.toList.mapIdx (fun j o => (lo + (j : Int), (pc : Int) + o)))
    | .lookupswitch d ps => decide ((pc : Int) + d = (xm_pc C a : Int)) && (ps.toList.zip (ps.toList.drop 1)).all (fun (a, next) => a.1 < next.1) && decide (sw.map (fun q => (q.1.toInt, (xm_pc C q.2 : Int))) = ps.toList.map (fun q => (q.1, (pc : Int) + q.2)))
    | .getfield j => match xm_fl a b with
      | some f => xm_w1 pl 0 (.fieldLink own j f.1 f.2.1 f.2.2.1)
      | none => false
    | .putfield j => match xm_fl a b with
      | some f => xm_w1 pl 0 (.fieldLink own j f.1 f.2.1 f.2.2.1) && (!f.2.2.2 || (decide (S.1.name = "<init>") && decide (f.1 = own))) && (if v = 0 then decide (parseFieldDescriptor f.2.2.1 = some .int) else if v = 2 then decide (parseFieldDescriptor f.2.2.1 = some .boolean) else xm_ptO (parseFieldDescriptor f.2.2.1))
      | none => false
    | .getstatic j => match xm_sn a with
      | some n => if v = 0 then xm_w1 pl 0 (.fieldLink own j RX8 n "[I") else xm_w2 pl 0 (.fieldLinkNest own j RX8 n "[I" RX8)
      | none => false
    | .new j => match vwCl[a]? with
      | some (Cn, _, N) => decide (N = b) && xm_w1 pl 0 (.classLink own j Cn) && xm_w1 pl 1 (.instantiable Cn N) && xm_w1 pl 2 (.initialized Cn)
      | none => false
    | .newarray t => decide (v.toNatClampNeg = b) && decide (¬ v < 0) && decide (b ≤ 100000) && (match t with
      | .int => decide (a = 0) && xm_w1 pl 0 (.arrayClass .int)
      | .byte => decide (a = 1) && xm_w1 pl 0 (.arrayClass .byte)
      | .short => decide (a = 2) && xm_w1 pl 0 (.arrayClass .short)
      | .long => decide (a = 3) && xm_w1 pl 0 (.arrayClass .long)
      | _ => false)
    | .anewarray j => decide (v.toNatClampNeg = b) && decide (¬ v < 0) && decide (b ≤ 100000) && xm_w1 pl 0 (.classLink own j RX5)
    | .invokestatic j => if v = 3 then xm_w1 pl 0 (.methodLink own j arraycopyName) && xm_w1 pl 1 (.native arraycopyName) && xm_w1 pl 2 (.static arraycopyName) && xm_w1 pl 3 (.initialized "java/lang/System")
      else (if v = 0 then xm_w1 pl 0 (.methodLink own j T.1) else xm_w2 pl 0 (.methodLinkNest own j T.1 RX8)) && xm_w1 pl 1 (.static T.1) && xm_w1 pl 2 (.initialized T.1.cls) && xm_w1 pl 3 (xm_cw T) && xm_md T a
    | .invokevirtual j => xm_w1 pl 0 (.methodLink own j T.1) && xm_w1 pl 1 (.instanceMethod T.1) && xm_w1 pl 2 (.selects T.1.cls T.1 T.1) && xm_w1 pl 3 (.initialized T.1.cls) && xm_w1 pl 4 (xm_cw T) && xm_md T a && decide ((vwCl[b]?).map (fun q => q.1) = some T.1.cls)
    | .invokespecial j => if v = 2 then xm_w1 pl 0 (.methodLink own j objectInit) && xm_w1 pl 1 (.instanceMethod objectInit) && xm_w1 pl 2 (.code objectInit ⟨#[0xb1]⟩ 1 none)
      else (if v = 0 then xm_w1 pl 0 (.methodLink own j T.1) else xm_w2 pl 0 (.methodLinkNest own j T.1 RX8)) && xm_w1 pl 1 (.instanceMethod T.1) && xm_w1 pl 2 (.initialized T.1.cls) && xm_w1 pl 3 (xm_cw T) && xm_md T a && decide (T.1.name = "<init>") && decide (T.2.2.2.1 = none) && decide ((vwCl[b]?).map (fun q => q.1) = some T.1.cls)
    | _ => true
def xm_il (i : Instr) (len : Nat) : Nat := match i with
  | .aconst_null => 1
  | .iload_n _ => 1
  | .lload_n _ => 1
  | .aload_n _ => 1
  | .istore_n _ => 1
  | .astore_n _ => 1
  | .iconst _ => 1
  | .lconst _ => 1
  | .iadd => 1
  | .isub => 1
  | .imul => 1
  | .iand => 1
  | .ior => 1
  | .ixor => 1
  | .ishl => 1
  | .ishr => 1
  | .iushr => 1
  | .idiv => 1
  | .irem => 1
  | .ineg => 1
  | .ladd => 1
  | .land => 1
  | .lor => 1
  | .lshl => 1
  | .lcmp => 1
  | .i2l => 1
  | .l2i => 1
  | .i2b => 1
  | .i2s => 1
  | .dup => 1
  | .dup2 => 1
  | .pop => 1
  | .iaload => 1
  | .baload => 1
  | .saload => 1
  | .laload => 1
  | .aaload => 1
  | .iastore => 1
  | .bastore => 1
  | .sastore => 1
  | .lastore => 1
  | .aastore => 1
  | .arraylength => 1
  | .ireturn => 1
  | .lreturn => 1
  | .areturn => 1
  | .return_ => 1
  | .bipush _ => 2
  | .ldc _ => 2
  | .iload _ => 2
  | .lload _ => 2
  | .aload _ => 2
  | .istore _ => 2
  | .lstore _ => 2
  | .astore _ => 2
  | .newarray _ => 2
  | .sipush _ => 3
  | .ldc_w _ => 3
  | .ldc2_w _ => 3
  | .iinc _ _ => 3
  | .ifCond _ _ => 3
  | .if_icmp _ _ => 3
  | .ifnull _ => 3
  | .ifnonnull _ => 3
  | .goto _ => 3
  | .getfield _ => 3
  | .putfield _ => 3
  | .getstatic _ => 3
  | .new _ => 3
  | .anewarray _ => 3
  | .invokestatic _ => 3
  | .invokevirtual _ => 3
  | .invokespecial _ => 3
  | .tableswitch .. => len
  | .lookupswitch .. => len
  | _ => len + 1
def xm_ck (S : xm_S) (own : String) (C : List xm_I) (k : Nat) (e : xm_I) : Bool := match e with
  | (pc, i, len, _, x) => decide (decode S.2.1 pc = .ok (i, len)) && decide (xm_il i len = len) && (xm_end i || (match C[k + 1]? with
    | some q => decide (q.1 = pc + len)
    | none => false)) && xm_lk S own C pc i x
def xm_ok (S : xm_S) (own : String) (C : List xm_I) : Bool := (List.range C.length).all (fun k => match C[k]? with
  | some e => xm_ck S own C k e
  | none => true)
theorem xm_ok_e {S : xm_S} {own : String} {C : List xm_I} (h : xm_ok S own C = true) {k : Nat} {e : xm_I} (he : C[k]? = some e) : xm_ck S own C k e = true := by
  unfold xm_ok at h
  have h1 := List.all_eq_true.mp h k (List.mem_range.mpr (List.getElem?_eq_some_iff.mp he).1)
  rw [he] at h1
  exact h1
