-- ONE STEP OF A METHOD OVER THE ABSTRACT MEMORY: what has to be shown so that what lies behind it can be used
abbrev Q_P : Type := List Q_V → Q_M → (Option Q_V → Q_M → Prop) → (Nat → Q_M → Prop) → Prop
abbrev Q_Z : Type := Nat → Nat → List (Nat × Q_V) → List Q_V → Q_M → Prop
def q_fld (own idx : Nat) : Option (Nat × Nat × Bool × Nat) := q_find own idx q_FL
def q_cal (own idx : Nat) : Option (Nat × Nat × Nat) := q_find own idx q_CL
def q_thr (mi pc : Nat) : Option (Nat × Nat × Nat × Nat × Bool × String) := q_find mi pc q_TS
def q_nth : List Q_S → Nat → Option Q_S
  | [], _ => none
  | s :: _, 0 => some s
  | _ :: L, k + 1 => q_nth L k
def q_at : Q_T → Nat → Option (Instr × (Nat × Nat))
  | [], _ => none
  | q :: T, pc => match Nat.beq q.1 pc with
    | true => some q.2
    | false => q_at T pc
def q_ld : List (Nat × Q_V) → Nat → Option Q_V
  | [], _ => none
  | q :: ls, k => match Nat.beq q.1 k with
    | true => some q.2
    | false => q_ld ls k
def q_f1 (k : Nat) (q : Nat × Q_V) : Bool := match Nat.beq q.1 k with
  | true => false
  | false => match Nat.beq (q.1 + 1) k with
    | true => Nat.beq (q_cat q.2) 1
    | false => true
def q_f2 (k : Nat) (q : Nat × Q_V) : Bool := match Nat.beq q.1 k with
  | true => false
  | false => match Nat.beq q.1 (k + 1) with
    | true => false
    | false => match Nat.beq (q.1 + 1) k with
      | true => Nat.beq (q_cat q.2) 1
      | false => true
def q_s1 (ls : List (Nat × Q_V)) (k : Nat) (v : Q_V) : List (Nat × Q_V) := (k, v) :: ls.filter (q_f1 k)
def q_s2 (ls : List (Nat × Q_V)) (k : Nat) (v : Q_V) : List (Nat × Q_V) := (k, v) :: ls.filter (q_f2 k)
def q_take : Nat → List Q_V → List Q_V → Option (List Q_V × List Q_V)
  | 0, acc, st => some (acc, st)
  | _ + 1, _, [] => none
  | n + 1, acc, v :: st => q_take n (v :: acc) st
def q_psh : Option Q_V → List Q_V → List Q_V
  | none, st => st
  | some v, st => v :: st
def q_sum : List Q_V → Nat
  | [] => 0
  | v :: st => q_cat v + q_sum st
def q_i : Int → Int32
  | .ofNat n => nI n
  | .negSucc n => Int32.ofInt (.negSucc n)
def q_br (cd : ClassFile.Cond) (x y : Int32) (T F : Prop) : Prop := match cd with
  | .eq => (x = y → T) ∧ (¬ x = y → F)
  | .ne => (x = y → F) ∧ (¬ x = y → T)
  | .lt => (x < y → T) ∧ (¬ x < y → F)
  | .ge => (y ≤ x → T) ∧ (¬ y ≤ x → F)
  | .gt => (y < x → T) ∧ (¬ y < x → F)
  | .le => (x ≤ y → T) ∧ (¬ x ≤ y → F)
def q_sw (pc d : Int) (x : Int32) (k : Nat → Prop) : List (Int × Int) → Prop
  | [] => ∃ t : Nat, pc + d = (t : Int) ∧ k t
  | q :: L => (x.toInt = q.1 → ∃ t : Nat, pc + q.2 = (t : Int) ∧ k t) ∧ (¬ x.toInt = q.1 → q_sw pc d x k L)
/-- where rows are copied: own class, index -/
def q_AL : List (Nat × (Nat × Unit)) := [(0, 19, ()), (1, 41, ()), (5, 25, ())]
def q_bit (x : Int32) : Prop := x = nI 0 ∨ x = nI 1
/-- the receiver of a call is of the method's class -/
def q_rcv (j : Nat) (av : List Q_V) : Bool := match av with
  | .inr (.inl i) :: _ => match q_lay i.1 with
    | some (ci, _) => Nat.ble j 148 && Nat.beq ci (q_own j) && Nat.beq (q_kind j) 0
    | none => false
  | _ => false
def q_end (rt : Option FieldType) (K : Option Q_V → Q_M → Prop) (ins : Instr) (st : List Q_V) (M : Q_M) : Prop := match ins with
  | .ireturn => match st with
    | [.inl x] => match rt with
      | some .int => K (some (.inl x)) M
      | some .boolean => q_bit x ∧ K (some (.inl x)) M
      | some .char => (∃ j : Nat, x = nI j ∧ j < 65536) ∧ K (some (.inl x)) M
      | _ => False
    | _ => False
  | .lreturn => match st with
    | [.inr (.inr (.inl x))] => match rt with
      | some .long => K (some (.inr (.inr (.inl x)))) M
      | _ => False
    | _ => False
  | .dreturn => match st with
    | [.inr (.inr (.inr x))] => match rt with
      | some .double => K (some (.inr (.inr (.inr x)))) M
      | _ => False
    | _ => False
  | .return_ => match st with
    | [] => match rt with
      | none => K none M
      | _ => False
    | _ => False
  | _ => False
def q_stp (own mi bi : Nat) (rt : Option FieldType) (sc : Option (Nat × (Nat → Int32))) (hd : Nat → Nat → Option Nat) (Cc : Nat → Q_P → Prop) (K : Option Q_V → Q_M → Prop) (KX : Nat → Q_M → Prop) (ins : Instr) (pc nx tg z : Nat) (ls : List (Nat × Q_V)) (st : List Q_V) (M : Q_M) (k : Q_Z) : Prop := match ins with
  | .aload_n i => match q_ld ls i.val with
    | some (.inr (.inl x)) => k z nx ls (.inr (.inl x) :: st) M
    | _ => False
  | .aload i => match q_ld ls i with
    | some (.inr (.inl x)) => k z nx ls (.inr (.inl x) :: st) M
    | _ => False
  | .iload_n i => match q_ld ls i.val with
    | some (.inl x) => k z nx ls (.inl x :: st) M
    | _ => False
  | .iload i => match q_ld ls i with
    | some (.inl x) => k z nx ls (.inl x :: st) M
    | _ => False
  | .lload_n i => match q_ld ls i.val with
    | some (.inr (.inr (.inl x))) => k z nx ls (.inr (.inr (.inl x)) :: st) M
    | _ => False
  | .lload i => match q_ld ls i with
    | some (.inr (.inr (.inl x))) => k z nx ls (.inr (.inr (.inl x)) :: st) M
    | _ => False
  | .dload_n i => match q_ld ls i.val with
    | some (.inr (.inr (.inr x))) => k z nx ls (.inr (.inr (.inr x)) :: st) M
    | _ => False
  | .dload i => match q_ld ls i with
    | some (.inr (.inr (.inr x))) => k z nx ls (.inr (.inr (.inr x)) :: st) M
    | _ => False
  | .istore_n i => match st with
    | .inl x :: r => k z nx (q_s1 ls i.val (.inl x)) r M
    | _ => False
  | .istore i => match st with
    | .inl x :: r => k z nx (q_s1 ls i (.inl x)) r M
    | _ => False
  | .astore_n i => match st with
    | .inr (.inl x) :: r => k z nx (q_s1 ls i.val (.inr (.inl x))) r M
    | _ => False
  | .astore i => match st with
    | .inr (.inl x) :: r => k z nx (q_s1 ls i (.inr (.inl x))) r M
    | _ => False
  | .lstore_n i => match st with
    | .inr (.inr (.inl x)) :: r => k z nx (q_s2 ls i.val (.inr (.inr (.inl x)))) r M
    | _ => False
  | .lstore i => match st with
    | .inr (.inr (.inl x)) :: r => k z nx (q_s2 ls i (.inr (.inr (.inl x)))) r M
    | _ => False
  | .dstore_n i => match st with
    | .inr (.inr (.inr x)) :: r => k z nx (q_s2 ls i.val (.inr (.inr (.inr x)))) r M
    | _ => False
  | .dstore i => match st with
    | .inr (.inr (.inr x)) :: r => k z nx (q_s2 ls i (.inr (.inr (.inr x)))) r M
    | _ => False
  | .iinc i n => match q_ld ls i with
    | some (.inl x) => k z nx (q_s1 ls i (.inl (x + q_i n))) st M
    | _ => False
  | .iconst n => k z nx ls (.inl (q_i n) :: st) M
  | .bipush n => k z nx ls (.inl (q_i n) :: st) M
  | .sipush n => k z nx ls (.inl (q_i n) :: st) M
  | .lconst n => k z nx ls (.inr (.inr (.inl (lN n.val))) :: st) M
  | .dconst n => match n.val with
    | 0 => k z nx ls (.inr (.inr (.inr 0)) :: st) M
    | _ => k z nx ls (.inr (.inr (.inr 0x3ff0000000000000)) :: st) M
  | .ldc2_w idx => match q_find own idx q_LL with
    | some v => k z nx ls (.inr (.inr (.inl v)) :: st) M
    | none => match q_find own idx q_LD with
      | some v => k z nx ls (.inr (.inr (.inr v)) :: st) M
      | none => False
  | .iadd => match st with
    | .inl y :: .inl x :: r => k z nx ls (.inl (x + y) :: r) M
    | _ => False
  | .isub => match st with
    | .inl y :: .inl x :: r => k z nx ls (.inl (x - y) :: r) M
    | _ => False
  | .imul => match st with
    | .inl y :: .inl x :: r => k z nx ls (.inl (x * y) :: r) M
    | _ => False
  | .iand => match st with
    | .inl y :: .inl x :: r => k z nx ls (.inl (x &&& y) :: r) M
    | _ => False
  | .idiv => match st with
    | .inl y :: .inl x :: r => ¬ y = 0 ∧ k z nx ls (.inl (x / y) :: r) M
    | _ => False
  | .irem => match st with
    | .inl y :: .inl x :: r => ¬ y = 0 ∧ k z nx ls (.inl (x - x / y * y) :: r) M
    | _ => False
  | .ldc idx => match q_find own idx q_LT with
    | some v => k z nx ls (.inl v :: st) M
    | none => False
  | .ladd => match st with
    | .inr (.inr (.inl y)) :: .inr (.inr (.inl x)) :: r => k z nx ls (.inr (.inr (.inl (x + y))) :: r) M
    | _ => False
  | .lsub => match st with
    | .inr (.inr (.inl y)) :: .inr (.inr (.inl x)) :: r => k z nx ls (.inr (.inr (.inl (x - y))) :: r) M
    | _ => False
  | .lmul => match st with
    | .inr (.inr (.inl y)) :: .inr (.inr (.inl x)) :: r => k z nx ls (.inr (.inr (.inl (x * y))) :: r) M
    | _ => False
  | .ldiv => match st with
    | .inr (.inr (.inl y)) :: .inr (.inr (.inl x)) :: r => ¬ y = 0 ∧ k z nx ls (.inr (.inr (.inl (x / y))) :: r) M
    | _ => False
  | .lrem => match st with
    | .inr (.inr (.inl y)) :: .inr (.inr (.inl x)) :: r => ¬ y = 0 ∧ k z nx ls (.inr (.inr (.inl (x - x / y * y))) :: r) M
    | _ => False
  | .lshl => match st with
    | .inl y :: .inr (.inr (.inl x)) :: r => k z nx ls (.inr (.inr (.inl (x <<< (y.toInt64 &&& 63)))) :: r) M
    | _ => False
  | .lcmp => match st with
    | .inr (.inr (.inl y)) :: .inr (.inr (.inl x)) :: r => k z nx ls (.inl (lg_cmp x y) :: r) M
    | _ => False
  | .dcmp op => match st with
    | .inr (.inr (.inr y)) :: .inr (.inr (.inr x)) :: r => k z nx ls (.inl (Op.cmpValue (FP.dcmp x y) op) :: r) M
    | _ => False
  | .dmul => match st with
    | .inr (.inr (.inr y)) :: .inr (.inr (.inr x)) :: r => vf_n64 (FP.dmul x y) ∧ k z nx ls (.inr (.inr (.inr (FP.dmul x y))) :: r) M
    | _ => False
  | .dsub => match st with
    | .inr (.inr (.inr y)) :: .inr (.inr (.inr x)) :: r => vf_n64 (FP.dsub x y) ∧ k z nx ls (.inr (.inr (.inr (FP.dsub x y))) :: r) M
    | _ => False
  | .ddiv => match st with
    | .inr (.inr (.inr y)) :: .inr (.inr (.inr x)) :: r => vf_n64 (FP.ddiv x y) ∧ k z nx ls (.inr (.inr (.inr (FP.ddiv x y))) :: r) M
    | _ => False
  | .i2l => match st with
    | .inl x :: r => k z nx ls (.inr (.inr (.inl x.toInt64)) :: r) M
    | _ => False
  | .i2c => match st with
    | .inl x :: r => k z nx ls (.inl (x.toUInt32 % 65536).toInt32 :: r) M
    | _ => False
  | .i2d => match st with
    | .inl x :: r => k z nx ls (.inr (.inr (.inr (FP.i2d x))) :: r) M
    | _ => False
  | .d2l => match st with
    | .inr (.inr (.inr x)) :: r => k z nx ls (.inr (.inr (.inl (FP.d2l x))) :: r) M
    | _ => False
  | .dup => match st with
    | v :: r => match Nat.beq (q_cat v) 1 with
      | true => k z nx ls (v :: v :: r) M
      | false => False
    | _ => False
  | .dup2 => match st with
    | v :: w :: r => match Nat.beq (q_cat v) 1 && Nat.beq (q_cat w) 1 with
      | true => k z nx ls (v :: w :: v :: w :: r) M
      | false => False
    | _ => False
  | .pop => match st with
    | v :: r => match Nat.beq (q_cat v) 1 with
      | true => k z nx ls r M
      | false => False
    | _ => False
  | .getfield idx => match q_fld own idx with
    | some (ci, kk, _, _) => match st with
      | .inr (.inl i) :: r => match q_lay i.1 with
        | some (ci', L) => match Nat.beq ci' ci with
          | true => match q_nth L kk with
            | some sl => k z nx ls (q_gv M i kk sl :: r) M
            | none => False
          | false => False
        | none => False
      | _ => False
    | none => False
  | .putfield idx => match q_fld own idx with
    | some (ci, kk, false, ty) => match st with
      | .inl x :: .inr (.inl i) :: r => match q_lay i.1 with
        | some (ci', L) => match Nat.beq ci' ci with
          | true => match q_nth L kk with
            | some (.inl 0) => match ty with
              | 0 => k z nx ls r (q_si M i kk x)
              | 1 => q_bit x ∧ k z nx ls r (q_si M i kk x)
              | _ => False
            | _ => False
          | false => False
        | none => False
      | .inr (.inr (.inl x)) :: .inr (.inl i) :: r => match q_lay i.1 with
        | some (ci', L) => match Nat.beq ci' ci with
          | true => match q_nth L kk with
            | some (.inl 1) => match ty with
              | 3 => k z nx ls r (q_sl M i kk x)
              | _ => False
            | _ => False
          | false => False
        | none => False
      | _ => False
    | _ => False
  | .iaload => match st with
    | .inl x :: .inr (.inl i) :: r => match q_arr i.1 with
      | some (1, n) => ∃ j : Nat, x = nI j ∧ j < n ∧ k z nx ls (.inl (M.1 i.1 i.2.1 i.2.2 j) :: r) M
      | some _ => False
      | none => match Nat.beq i.1 26 with
        | true => match sc with
          | some sc => ∃ j : Nat, i = (26, 0, 0) ∧ x = nI j ∧ j < sc.1 ∧ k z nx ls (.inl (sc.2 j) :: r) M
          | none => False
        | false => False
    | _ => False
  | .arraylength => match st with
    | .inr (.inl i) :: r => match Nat.beq i.1 26 with
      | true => match sc with
        | some sc => i = (26, 0, 0) ∧ k z nx ls (.inl (nI sc.1) :: r) M
        | none => False
      | false => False
    | _ => False
  | .baload => match st with
    | .inl x :: .inr (.inl i) :: r => match q_arr i.1 with
      | some (2, n) => ∃ j : Nat, x = nI j ∧ j < n ∧ k z nx ls (.inl (M.1 i.1 i.2.1 i.2.2 j) :: r) M
      | _ => False
    | _ => False
  | .iastore => match st with
    | .inl v :: .inl x :: .inr (.inl i) :: r => match q_arr i.1 with
      | some (1, n) => ∃ j : Nat, x = nI j ∧ j < n ∧ k z nx ls r (q_si M i j v)
      | _ => False
    | _ => False
  | .bastore => match st with
    | .inl v :: .inl x :: .inr (.inl i) :: r => match q_arr i.1 with
      | some (2, n) => ∃ j : Nat, x = nI j ∧ j < n ∧ q_bit v ∧ k z nx ls r (q_si M i j v)
      | _ => False
    | _ => False
  | .aaload => match st with
    | .inl x :: .inr (.inl i) :: r => match q_rar i.1 with
      | some (tc, n) => ∃ j : Nat, x = nI j ∧ j < n ∧ k z nx ls (.inr (.inl (q_tg M i tc j)) :: r) M
      | none => False
    | _ => False
  | .aastore => match st with
    | .inr (.inl v) :: .inl x :: .inr (.inl i) :: r => match q_rar i.1 with
      | some (tc, n) => ∃ j y : Nat, x = nI j ∧ j < n ∧ v = q_tgi i tc y ∧ k z nx ls r (q_sr M i j y)
      | none => False
    | _ => False
  | .goto _ => k z tg ls st M
  | .ifCond cd _ => match st with
    | .inl x :: r => q_br cd x 0 (k z tg ls r M) (k z nx ls r M)
    | _ => False
  | .if_icmp cd _ => match st with
    | .inl y :: .inl x :: r => q_br cd x y (k z tg ls r M) (k z nx ls r M)
    | _ => False
  | .lookupswitch d ps => match st with
    | .inl x :: r => q_sw pc d x (fun t => k z t ls r M) ps.toList
    | _ => False
  | .tableswitch d lo hi offs => match st with
    | .inl x :: r => (x.toInt < lo ∨ hi < x.toInt → ∃ t : Nat, (pc : Int) + d = (t : Int) ∧ k z t ls r M) ∧ (¬ x.toInt < lo → ¬ hi < x.toInt → ∃ (off : Int) (t : Nat), offs[(x.toInt - lo).toNat]? = some off ∧ (pc : Int) + off = (t : Int) ∧ k z t ls r M)
    | _ => False
  | .ireturn => q_end rt K .ireturn st M
  | .lreturn => q_end rt K .lreturn st M
  | .dreturn => q_end rt K .dreturn st M
  | .return_ => q_end rt K .return_ st M
  | .invokevirtual idx => match q_cal own idx with
    | some (j, na, bj) => match q_take na [] st with
      | some (av, r) => match q_rcv j av && Nat.ble (z + bj) bi && Nat.ble (q_sum r) 8 with
        | true => ∃ P : Q_P, Cc j P ∧ P av M (fun v M' => k (z + bj) nx ls (q_psh v r) M') (fun E M' => match hd pc E with
          | some h => ∀ q : Nat, k (z + bj) h ls [.inr (.inl (28, q, 0))] M'
          | none => KX E M')
        | false => False
      | none => False
    | none => False
  | .invokestatic idx => match q_cal own idx with
    | some (j, na, bj) => match q_take na [] st with
      | some (av, r) => match (Nat.ble 149 j || Nat.beq (q_kind j) 1) && Nat.ble (z + bj) bi && Nat.ble (q_sum r) 8 with
        | true => ∃ P : Q_P, Cc j P ∧ P av M (fun v M' => k (z + bj) nx ls (q_psh v r) M') (fun E M' => match hd pc E with
          | some h => ∀ q : Nat, k (z + bj) h ls [.inr (.inl (28, q, 0))] M'
          | none => KX E M')
        | false => False
      | none => False
    | none => match q_find own idx q_AL with
      | some _ => match st with
        | .inl n :: .inl dp :: .inr (.inl a) :: .inl sp :: .inr (.inl a0) :: r => match q_arr a.1, q_arr a0.1 with
          | some (1, n1), some (1, n0) => ∃ L : Nat, n = nI L ∧ sp = nI 0 ∧ dp = nI 0 ∧ L ≤ n0 ∧ L ≤ n1 ∧ q_sum r = 0 ∧ k z nx ls r (q_sa M a (fun q => if q < L then M.1 a0.1 a0.2.1 a0.2.2 q else M.1 a.1 a.2.1 a.2.2 q))
          | _, _ => False
        | _ => False
      | none => match Nat.beq own 7 && Nat.beq idx 97 with
        | true => match st with
          | .inl y :: .inl x :: r => match Nat.ble (q_sum r) 5 with
            | true => k z nx ls (.inl (if x < y then y else x) :: r) M
            | false => False
          | _ => False
        | false => False
  | .new _ => match q_thr mi pc with
    | some (E, _) => match Nat.ble (z + 1) bi && Nat.ble (q_sum st) 8 with
      | true => match hd pc E with
        | some _ => False
        | none => KX E M
      | false => False
    | none => False
  | _ => False
def q_stop (pc : Nat) : List Nat → Bool
  | [] => false
  | t :: L => match Nat.beq t pc with
    | true => true
    | false => q_stop pc L
def q_vc (own mi bi : Nat) (rt : Option FieldType) (sc : Option (Nat × (Nat → Int32))) (hd : Nat → Nat → Option Nat) (Cc : Nat → Q_P → Prop) (K : Option Q_V → Q_M → Prop) (KX : Nat → Q_M → Prop) (T : Q_T) (Z : Q_Z) (stops : List Nat) : Nat → Nat → Nat → List (Nat × Q_V) → List Q_V → Q_M → Prop
  | 0, z, pc, ls, st, M => Z z pc ls st M
  | n + 1, z, pc, ls, st, M => match q_at T pc with
    | some (ins, nx, tg) => q_stp own mi bi rt sc hd Cc K KX ins pc nx tg z ls st M (fun z' pc' ls' st' M' => match q_stop pc' stops with
      | true => Z z' pc' ls' st' M'
      | false => q_vc own mi bi rt sc hd Cc K KX T Z stops n z' pc' ls' st' M')
    | none => False
def q_len (ins : Instr) (d : Nat) : Nat := match ins with
  | .aload _ => 2
  | .iload _ => 2
  | .lload _ => 2
  | .dload _ => 2
  | .istore _ => 2
  | .astore _ => 2
  | .lstore _ => 2
  | .dstore _ => 2
  | .bipush _ => 2
  | .iinc _ _ => 3
  | .sipush _ => 3
  | .ldc2_w _ => 3
  | .getfield _ => 3
  | .putfield _ => 3
  | .goto _ => 3
  | .ifCond _ _ => 3
  | .if_icmp _ _ => 3
  | .invokevirtual _ => 3
  | .invokestatic _ => 3
  | .invokespecial _ => 3
  | .new _ => 3
  | .lookupswitch _ _ => d
  | .tableswitch _ _ _ _ => d
  | .ldc _ => 2
  | .ldc_w _ => 3
  | .anewarray _ => 3
  | .newarray _ => 2
  | _ => 1
/-- what the table says of one instruction, beside its decoding -/
def q_chk1 (own nL fr lo : Nat) (ins : Instr) (pc tg : Nat) : Bool := match ins with
  | .goto off => decide ((pc : Int) + off = (tg : Int))
  | .ifCond _ off => decide ((pc : Int) + off = (tg : Int))
  | .if_icmp _ off => decide ((pc : Int) + off = (tg : Int))
  | .iconst n => decide (Int32.ofInt n = q_i n)
  | .bipush n => decide ((Int8.ofInt n).toInt32 = q_i n)
  | .sipush n => decide ((Int16.ofInt n).toInt32 = q_i n)
  | .iinc i n => decide (Int32.ofInt n = q_i n) && Nat.blt i nL
  | .istore i => Nat.blt i nL
  | .istore_n i => Nat.blt i.val nL
  | .astore i => Nat.blt i nL
  | .astore_n i => Nat.blt i.val nL
  | .lstore i => Nat.blt (i + 1) nL
  | .lstore_n i => Nat.blt (i.val + 1) nL
  | .dstore i => Nat.blt (i + 1) nL
  | .dstore_n i => Nat.blt (i.val + 1) nL
  | .lookupswitch _ ps => (ps.toList.zip (ps.toList.drop 1)).all (fun (a, next) => a.1 < next.1)
  | .invokevirtual idx => match q_cal own idx with
    | some (j, _, _) => Nat.ble (q_fr j + 1) fr && Nat.ble (8 + (q_ml j + 11) + q_lo j) lo
    | none => true
  | .invokestatic idx => match q_cal own idx with
    | some (j, _, _) => Nat.ble 149 j || (Nat.ble (q_fr j + 1) fr && Nat.ble (8 + (q_ml j + 11) + q_lo j) lo)
    | none => Nat.ble 1 fr && Nat.ble 18 lo
  | _ => true
def q_chk (own nL fr lo : Nat) (cc : ByteArray) (T : Q_T) : Bool := T.all fun q => decide (decode cc q.1 = .ok (q.2.1, q_len q.2.1 (q.2.2.1 - q.1))) && (Nat.beq (q.1 + q_len q.2.1 (q.2.2.1 - q.1)) q.2.2.1 && q_chk1 own nL fr lo q.2.1 q.1 q.2.2.2)
