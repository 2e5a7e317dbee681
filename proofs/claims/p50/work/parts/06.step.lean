/-! ONE STEP of the little machine, and runs -/
abbrev lt_KT (β : Type) : Type := Nat → List Value → List Value → LM → Option β
/-- an exception that a call throws: caught (the handler's number is answered), or not -/
def lt_th (h : List (Nat × Int32)) (e : Nat) (M : LM) : Option (LO × LM) := match lt_find h e with
  | some c => some (.inl (some (.int c)), M)
  | none => match h with
    | [] => some (.inr e, M)
    | _ => none
def lt_bv (q : Option (LO × LM)) (h : List (Nat × Int32)) (k : LM → Option (LO × LM)) : Option (LO × LM) := match q with
  | some (.inl none, M) => k M
  | some (.inr e, M) => lt_th h e M
  | _ => none
def lt_bi (q : Option (LO × LM)) (h : List (Nat × Int32)) (k : Int32 → LM → Option (LO × LM)) : Option (LO × LM) := match q with
  | some (.inl (some (.int x)), M) => k x M
  | some (.inr e, M) => lt_th h e M
  | _ => none
def lt_bl (q : Option (LO × LM)) (h : List (Nat × Int32)) (k : Int64 → LM → Option (LO × LM)) : Option (LO × LM) := match q with
  | some (.inl (some (.long x)), M) => k x M
  | some (.inr e, M) => lt_th h e M
  | _ => none
def lt_br (q : Option (LO × LM)) (h : List (Nat × Int32)) (k : Nat → LM → Option (LO × LM)) : Option (LO × LM) := match q with
  | some (.inl (some (.ref x)), M) => k x M
  | some (.inr e, M) => lt_th h e M
  | _ => none
def lt_bf (q : Option (LO × LM)) (h : List (Nat × Int32)) (k : UInt32 → LM → Option (LO × LM)) : Option (LO × LM) := match q with
  | some (.inl (some (.float x)), M) => k x M
  | some (.inr e, M) => lt_th h e M
  | _ => none
def lt_bd (q : Option (LO × LM)) (h : List (Nat × Int32)) (k : UInt64 → LM → Option (LO × LM)) : Option (LO × LM) := match q with
  | some (.inl (some (.double x)), M) => k x M
  | some (.inr e, M) => lt_th h e M
  | _ => none
/-- nothing below; the method returns a value of that kind -/
def lt_nl {β : Type} (r : List Value) (x : Option β) : Option β := match r with
  | [] => x
  | _ => none
def lt_rt {β : Type} (m k : Nat) (x : Option β) : Option β := bif Nat.beq (lt_inf m).2.1 k then x else none
/-- the arguments fit into the callee's locals -/
def lt_ag {β : Type} (st : List Value) (n mx : Nat) (x : Option β) : Option β := bif Nat.ble (lt_w (st.take n)) mx then x else none
/-- called by its receiver, static -/
def lt_isv (mi : Nat) : Bool := !(lt_inf mi).2.2.2.1 && (!(lt_ini mi) && Nat.blt mi 149)
def lt_iss (mi : Nat) : Bool := (lt_inf mi).2.2.2.1 && Nat.blt mi 149
/-- what a call hands back -/
def lt_rb (rt : Nat) (q : Option (LO × LM)) (h : List (Nat × Int32)) (k : List Value → LM → Option (LO × LM)) : Option (LO × LM) := match rt with
  | 0 => lt_bv q h fun M => k [] M
  | 1 => lt_bi q h fun x M => k [.int x] M
  | 2 => lt_bl q h fun x M => k [.long x] M
  | 3 => lt_br q h fun x M => k [.ref x] M
  | 4 => lt_bd q h fun x M => k [.double x] M
  | 5 => lt_bf q h fun x M => k [.float x] M
  | _ => lt_bi q h fun x M => k [.int x] M
/-- enough on the stack, and little below the arguments -/
def lt_sk {β : Type} (st : List Value) (n : Nat) (x : Option β) : Option β := bif Nat.ble n st.length && Nat.ble (lt_w (st.drop n)) 8 then x else none
/-- the receiver's class -/
def lt_rc {β : Type} (M : LM) (as : List Value) (c : Nat) (x : Option β) : Option β := match as with
  | .ref a :: _ => lt_ck M a c x
  | _ => none
def lt_cv (call : Nat → List Value → LM → Option (LO × LM)) (own m nx idx : Nat) (ls st : List Value) (M : LM) (K : lt_KT (LO × LM)) : Option (LO × LM) := match lt_find (lt_mth own) idx with
  | some (mi, n) => bif lt_isv mi then lt_sk st n (lt_ag st n (lt_inf mi).2.2.1 (lt_rc M (st.take n).reverse (16 + (lt_inf mi).1) (lt_rb (lt_inf mi).2.1 (call mi (st.take n).reverse M) (lt_inf m).2.2.2.2 fun vs M => lt_fc (vs ++ st.drop n) fun st => K nx ls st M))) else none
  | none => none
def lt_cp6 (M : LM) (st : List Value) (k : List Value → LM → Option (LO × LM)) : Option (LO × LM) := match st with
  | .int n :: .int dp :: .ref d :: .int sp :: .ref a :: r => lt_cp M a d sp dp n fun M => k r M
  | _ => none
def lt_cs (call : Nat → List Value → LM → Option (LO × LM)) (own m nx idx : Nat) (ls st : List Value) (M : LM) (K : lt_KT (LO × LM)) : Option (LO × LM) := match lt_find (lt_mth own) idx with
  | some (mi, n) => bif Nat.beq mi 1000 then lt_sk st 5 (lt_cp6 M st fun r M => K nx ls r M) else
      bif lt_iss mi then lt_sk st n (lt_ag st n (lt_inf mi).2.2.1 (lt_rb (lt_inf mi).2.1 (call mi (st.take n).reverse M) (lt_inf m).2.2.2.2 fun vs M => lt_fc (vs ++ st.drop n) fun st => K nx ls st M)) else none
  | none => none
def lt_ci (call : Nat → List Value → LM → Option (LO × LM)) (own m nx idx : Nat) (ls st : List Value) (M : LM) (K : lt_KT (LO × LM)) : Option (LO × LM) := match lt_find (lt_mth own) idx with
  | some (mi, n) => bif Nat.beq mi 1001 then lt_a1 st (fun _ r => bif Nat.ble (lt_w r) 8 then K nx ls r M else none) else
      bif lt_ini mi then lt_sk st n (lt_ag st n (lt_inf mi).2.2.1 (match (st.take n).reverse with
        | .ref _ :: _ => lt_rb (lt_inf mi).2.1 (call mi (st.take n).reverse M) (lt_inf m).2.2.2.2 fun vs M => lt_fc (vs ++ st.drop n) fun st => K nx ls st M
        | _ => none)) else none
  | none => none
def lt_gf (own nx idx : Nat) (ls st : List Value) (M : LM) (K : lt_KT (LO × LM)) : Option (LO × LM) := match lt_find (lt_fld own) idx with
  | some (ci, k, 0, _) => lt_a1 st fun a r => lt_ck M a (16 + ci) (K nx ls (.int (mI M a k) :: r) M)
  | some (ci, k, 1, _) => lt_a1 st fun a r => lt_ck M a (16 + ci) (K nx ls (.long (mL M a k) :: r) M)
  | some (ci, k, 2, _) => lt_a1 st fun a r => lt_ck M a (16 + ci) (lt_rf (mP M a k) fun q => K nx ls (.ref q :: r) M)
  | some (ci, k, _, _) => lt_a1 st fun a r => lt_ck M a (16 + ci) (K nx ls (.int (mI M a k) :: r) M)
  | none => match lt_find (lt_fln own) idx with
    | some (ci, k) => lt_a1 st fun a r => lt_ck M a (16 + ci) (K nx ls (.int (mI M a k) :: r) M)
    | none => none
/-- a value over a reference -/
def lt_p2 {β : Type} (st : List Value) (f : Nat → Value → List Value → Option β) : Option β := match st with
  | v :: .ref a :: r => f a v r
  | _ => none
def lt_pf (own nx idx : Nat) (ini : Bool) (ls st : List Value) (M : LM) (K : lt_KT (LO × LM)) : Option (LO × LM) := match lt_find (lt_fld own) idx with
  | some (ci, k, ft, fin) => bif (!fin || (ini && Nat.beq own ci)) then lt_p2 st fun a v r => lt_ck M a (16 + ci) (match ft with
      | 0 => lt_vi v fun x => lt_m (wI M a k x) fun M => K nx ls r M
      | 1 => lt_vl v fun x => lt_m (wL M a k x) fun M => K nx ls r M
      | 2 => lt_va v fun x => lt_m (wP M a k (some x)) fun M => K nx ls r M
      | _ => lt_vi v fun x => lt_b1 x (lt_m (wI M a k x) fun M => K nx ls r M)) else none
  | none => none
def lt_nw (own nx idx : Nat) (ls st : List Value) (M : LM) (K : lt_KT (LO × LM)) : Option (LO × LM) := match lt_find (lt_cls own) idx with
  | some c => bif Nat.blt c 100 then lt_m (aNew M (16 + c) 0 (lt_nf c)) fun M' => K nx ls (.ref (mN M) :: st) M' else bif Nat.blt c 200 && Nat.ble (lt_w st) 8 then some (.inr (c - 100), aExn M) else none
  | none => none
def lt_na (k nx : Nat) (ls st : List Value) (M : LM) (K : lt_KT (LO × LM)) : Option (LO × LM) := lt_i1 st fun n r => lt_ln n (lt_m (aNew M k (lt_n n) (lt_n n)) fun M' => K nx ls (.ref (mN M) :: r) M')
def lt_nq (own nx idx : Nat) (ls st : List Value) (M : LM) (K : lt_KT (LO × LM)) : Option (LO × LM) := match lt_find (lt_cls own) idx with
  | some 0 => lt_na 5 nx ls st M K
  | some 1 => lt_na 6 nx ls st M K
  | some 12 => lt_na 8 nx ls st M K
  | _ => none
def lt_mu (own nx idx : Nat) (ls st : List Value) (M : LM) (K : lt_KT (LO × LM)) : Option (LO × LM) := lt_i2 st fun n k r => match lt_find (lt_cls own) idx with
  | some 207 => lt_ln n (lt_ln k (lt_m (aMul M 7 1 (lt_n n) (lt_n k)) fun M' => K nx ls (.ref (mN M) :: r) M'))
  | _ => none
def lt_t (pc : Nat) (off : Int) : Nat := ((pc : Int) + off).toNat
def lt_if (c : ClassFile.Cond) (x : Int32) (a b : Option (LO × LM)) : Option (LO × LM) := match c with
  | .eq => if x = 0 then a else b
  | .ne => if x = 0 then b else a
  | .lt => if x < 0 then a else b
  | .ge => if x < 0 then b else a
  | .gt => if 0 < x then a else b
  | .le => if 0 < x then b else a
def lt_ic (c : ClassFile.Cond) (x y : Int32) (a b : Option (LO × LM)) : Option (LO × LM) := match c with
  | .eq => if x = y then a else b
  | .ne => if x = y then b else a
  | .lt => if x < y then a else b
  | .ge => if x < y then b else a
  | .gt => if y < x then a else b
  | .le => if y < x then b else a
/-- one instruction: i, the place of the next one nx, whether a reference read may be null fl -/
def lt_op (call : Nat → List Value → LM → Option (LO × LM)) (own m pc : Nat) (i : Instr) (nx : Nat) (fl : Bool) (tg : Nat) (cn : Int32) (ls st : List Value) (M : LM) (K : lt_KT (LO × LM)) : Option (LO × LM) := match i with
  | .iload k => lt_gi ls k fun x => K nx ls (.int x :: st) M
  | .iload_n k => lt_gi ls k fun x => K nx ls (.int x :: st) M
  | .aload k => lt_ga ls k (fun x => K nx ls (.ref x :: st) M) (K nx ls (.null :: st) M)
  | .aload_n k => lt_ga ls k (fun x => K nx ls (.ref x :: st) M) (K nx ls (.null :: st) M)
  | .lload k => lt_gl ls k fun x => K nx ls (.long x :: st) M
  | .lload_n k => lt_gl ls k fun x => K nx ls (.long x :: st) M
  | .dload k => lt_gd ls k fun x => K nx ls (.double x :: st) M
  | .istore k => lt_i1 st fun x r => lt_o1 ls k (.int x) fun ls => K nx ls r M
  | .istore_n k => lt_i1 st fun x r => lt_o1 ls k (.int x) fun ls => K nx ls r M
  | .astore k => lt_n1 st (fun x r => lt_o1 ls k (.ref x) fun ls => K nx ls r M) (fun r => lt_o1 ls k .null fun ls => K nx ls r M)
  | .astore_n k => lt_n1 st (fun x r => lt_o1 ls k (.ref x) fun ls => K nx ls r M) (fun r => lt_o1 ls k .null fun ls => K nx ls r M)
  | .lstore k => lt_l1 st fun x r => lt_o2 ls k (.long x) fun ls => K nx ls r M
  | .lstore_n k => lt_l1 st fun x r => lt_o2 ls k (.long x) fun ls => K nx ls r M
  | .dstore k => lt_d1 st fun x r => lt_o2 ls k (.double x) fun ls => K nx ls r M
  | .iinc k _ => lt_gi ls k fun x => lt_o1 ls k (.int (x + cn)) fun ls => K nx ls st M
  | .iconst _ => K nx ls (.int cn :: st) M
  | .bipush _ => K nx ls (.int cn :: st) M
  | .sipush _ => K nx ls (.int cn :: st) M
  | .lconst n => K nx ls (.long (Int64.ofNat (n : Nat)) :: st) M
  | .fconst 0 => K nx ls (.float FP.fconst0 :: st) M
  | .dconst 0 => K nx ls (.double FP.dconst0 :: st) M
  | .aconst_null => K nx ls (.null :: st) M
  | .ldc k => match lt_find (lt_cst own) k with
    | some v => K nx ls (.int v :: st) M
    | none => none
  | .ldc_w k => match lt_find (lt_cst own) k with
    | some v => K nx ls (.int v :: st) M
    | none => none
  | .ldc2_w k => match lt_find (lt_csl own) k with
    | some v => K nx ls (.long v :: st) M
    | none => none
  | .iadd => lt_i2 st fun x y r => K nx ls (.int (x + y) :: r) M
  | .isub => lt_i2 st fun x y r => K nx ls (.int (x - y) :: r) M
  | .imul => lt_i2 st fun x y r => K nx ls (.int (x * y) :: r) M
  | .iand => lt_i2 st fun x y r => K nx ls (.int (x &&& y) :: r) M
  | .ior => lt_i2 st fun x y r => K nx ls (.int (x ||| y) :: r) M
  | .ixor => lt_i2 st fun x y r => K nx ls (.int (x ^^^ y) :: r) M
  | .idiv => lt_i2 st fun x y r => lt_nz y (K nx ls (.int (x / y) :: r) M)
  | .irem => lt_i2 st fun x y r => lt_nz y (K nx ls (.int (x - x / y * y) :: r) M)
  | .ineg => lt_i1 st fun x r => K nx ls (.int (-x) :: r) M
  | .ishl => lt_i2 st fun x y r => K nx ls (.int (x <<< (y &&& 31)) :: r) M
  | .ishr => lt_i2 st fun x y r => K nx ls (.int (x >>> (y &&& 31)) :: r) M
  | .iushr => lt_i2 st fun x y r => K nx ls (.int (lt_us x y) :: r) M
  | .ladd => lt_l2 st fun x y r => K nx ls (.long (x + y) :: r) M
  | .lmul => lt_l2 st fun x y r => K nx ls (.long (x * y) :: r) M
  | .land => lt_l2 st fun x y r => K nx ls (.long (x &&& y) :: r) M
  | .lor => lt_l2 st fun x y r => K nx ls (.long (x ||| y) :: r) M
  | .ldiv => lt_l2 st fun x y r => lt_nzl y (K nx ls (.long (x / y) :: r) M)
  | .lrem => lt_l2 st fun x y r => lt_nzl y (K nx ls (.long (x - x / y * y) :: r) M)
  | .lushr => lt_li st fun x y r => K nx ls (.long (lt_lus x y) :: r) M
  | .lshl => lt_li st fun x y r => K nx ls (.long (lt_lsl x y) :: r) M
  | .lcmp => lt_l2 st fun x y r => K nx ls (.int (lg_cmp x y) :: r) M
  | .i2l => lt_i1 st fun x r => K nx ls (.long x.toInt64 :: r) M
  | .l2i => lt_l1 st fun x r => K nx ls (.int x.toInt32 :: r) M
  | .i2f => lt_i1 st fun x r => K nx ls (.float (FP.i2f x) :: r) M
  | .i2d => lt_i1 st fun x r => K nx ls (.double (FP.i2d x) :: r) M
  | .f2d => lt_f1 st fun x r => lt_n64 (FP.f2d x) (K nx ls (.double (FP.f2d x) :: r) M)
  | .fdiv => lt_f2 st fun x y r => lt_n32 (FP.fdiv x y) (K nx ls (.float (FP.fdiv x y) :: r) M)
  | .ddiv => lt_d2 st fun x y r => lt_n64 (FP.ddiv x y) (K nx ls (.double (FP.ddiv x y) :: r) M)
  | .dcmp op => lt_d2 st fun x y r => K nx ls (.int (Op.cmpValue (FP.dcmp x y) op) :: r) M
  | .dup => match st with
    | v :: r => bif lt_c1 v then K nx ls (v :: v :: r) M else none
    | [] => none
  | .dup2 => match st with
    | v :: w :: r => bif lt_c1 v && lt_c1 w then K nx ls (v :: w :: v :: w :: r) M else none
    | _ => none
  | .pop => match st with
    | v :: r => bif lt_c1 v then K nx ls r M else none
    | [] => none
  | .goto _ => K tg ls st M
  | .ifCond c _ => lt_i1 st fun x r => lt_if c x (K tg ls r M) (K nx ls r M)
  | .if_icmp c _ => lt_i2 st fun x y r => lt_ic c x y (K tg ls r M) (K nx ls r M)
  | .ifnull _ => lt_n1 st (fun _ r => K nx ls r M) (fun r => K tg ls r M)
  | .ifnonnull _ => lt_n1 st (fun _ r => K tg ls r M) (fun r => K nx ls r M)
  | .tableswitch d lo _ os => lt_i1 st fun x r => lt_tb x.toInt lo os.toList (fun o => K (lt_t pc o) ls r M) (K (lt_t pc d) ls r M)
  | .lookupswitch d ps => lt_i1 st fun x r => lt_lk x.toInt ps.toList (fun o => K (lt_t pc o) ls r M) (K (lt_t pc d) ls r M)
  | .getfield k => lt_gf own nx k ls st M K
  | .putfield k => lt_pf own nx k (lt_ini m) ls st M K
  | .iaload => lt_x1 st fun a i r => lt_ar M a (lt_ik m) i (K nx ls (.int (mI M a (lt_n i)) :: r) M)
  | .baload => lt_x1 st fun a i r => lt_ar M a 3 i (K nx ls (.int (mI M a (lt_n i)) :: r) M)
  | .laload => lt_x1 st fun a i r => lt_ar M a 2 i (K nx ls (.long (mL M a (lt_n i)) :: r) M)
  | .aaload => lt_x1 st fun a i r => lt_aa M a i (bif fl then lt_rn (mP M a (lt_n i)) (fun q => K nx ls (.ref q :: r) M) (K nx ls (.null :: r) M) else lt_rf (mP M a (lt_n i)) fun q => K nx ls (.ref q :: r) M)
  | .iastore => lt_x2 st fun a i v r => lt_vi v fun x => lt_ar M a 1 i (lt_m (wI M a (lt_n i) x) fun M => K nx ls r M)
  | .bastore => lt_x2 st fun a i v r => lt_vi v fun x => lt_ar M a 3 i (lt_b1 x (lt_m (wI M a (lt_n i) x) fun M => K nx ls r M))
  | .lastore => lt_x2 st fun a i v r => lt_vl v fun x => lt_ar M a 2 i (lt_m (wL M a (lt_n i) x) fun M => K nx ls r M)
  | .aastore => lt_x2 st fun a i v r => lt_va v fun x => lt_as M a i x (lt_m (wP M a (lt_n i) (some x)) fun M => K nx ls r M)
  | .arraylength => lt_a1 st fun a r => lt_al M a (K nx ls (.int (nI (mZ M a)) :: r) M)
  | .newarray .int => lt_na 1 nx ls st M K
  | .newarray .long => lt_na 2 nx ls st M K
  | .newarray .boolean => lt_na 3 nx ls st M K
  | .anewarray k => lt_nq own nx k ls st M K
  | .multianewarray k 2 => lt_mu own nx k ls st M K
  | .new k => lt_nw own nx k ls st M K
  | .invokestatic k => lt_cs call own m nx k ls st M K
  | .invokevirtual k => lt_cv call own m nx k ls st M K
  | .invokespecial k => lt_ci call own m nx k ls st M K
  | .ireturn => lt_i1 st fun x r => lt_nl r (bif Nat.beq (lt_inf m).2.1 6 then lt_b1 x (some (.inl (some (.int x)), M)) else lt_rt m 1 (some (.inl (some (.int x)), M)))
  | .lreturn => lt_l1 st fun x r => lt_nl r (lt_rt m 2 (some (.inl (some (.long x)), M)))
  | .freturn => lt_f1 st fun x r => lt_nl r (lt_rt m 5 (some (.inl (some (.float x)), M)))
  | .dreturn => lt_d1 st fun x r => lt_nl r (lt_rt m 4 (some (.inl (some (.double x)), M)))
  | .areturn => lt_a1 st fun x r => lt_nl r (lt_rt m 3 (some (.inl (some (.ref x)), M)))
  | .return_ => lt_nl st (lt_rt m 0 (some (.inl none, M)))
  | _ => none
def lt_do (call : Nat → List Value → LM → Option (LO × LM)) (m pc : Nat) (ls st : List Value) (M : LM) (K : lt_KT (LO × LM)) : Option (LO × LM) := match lt_code m pc with
  | some (i, nx, fl, tg, cn) => lt_op call (lt_inf m).1 m pc i nx fl tg cn ls st M fun pc ls st M => match lt_ks m pc with
    | [] => K pc ls st M
    | k :: r => lt_fc (lt_kl ls (k :: r)) fun ls => K pc ls st M
  | none => none
def lt_it (call : Nat → List Value → LM → Option (LO × LM)) (m : Nat) : Nat → Nat → List Value → List Value → LM → Option (LO × LM)
  | 0, _, _, _, _ => none
  | n + 1, pc, ls, st, M => lt_do call m pc ls st M fun pc ls st M => lt_it call m n pc ls st M
/-- the first answer of a row of tries -/
noncomputable def lt_lim (f : Nat → Option (LO × LM)) : Option (LO × LM) := @dite _ (∃ n, (f n).isSome = true) (Classical.propDecidable _) (fun h => f (Classical.choose h)) (fun _ => none)
/-- a run from a place of a method, d calls deep at most -/
noncomputable def ev : Nat → Nat → Nat → List Value → List Value → LM → Option (LO × LM)
  | 0, _, _, _, _, _ => none
  | d + 1, m, pc, ls, st, M => lt_lim fun n => lt_it (fun mi as M => ev d mi 0 (lt_sp (lt_inf mi).2.2.1 as) [] M) m n pc ls st M
noncomputable def lt_call (d mi : Nat) (as : List Value) (M : LM) : Option (LO × LM) := ev d mi 0 (lt_sp (lt_inf mi).2.2.1 as) [] M
