/-! THE SMALL MACHINE: ints as Int, the world as a function of (sort, number, place). A method is a table of
its instructions; 'oh_sem' says what each asks of the state behind it (goal first). -/
abbrev AV : Type := Int ⊕ (Int ⊕ ((Nat × Nat) ⊕ Nat))
abbrev oI (x : Int) : AV := Sum.inl x
abbrev oL (x : Int) : AV := Sum.inr (Sum.inl x)
abbrev oR (s n : Nat) : AV := Sum.inr (Sum.inr (Sum.inl (s, n)))
abbrev oK (c : Nat) : AV := Sum.inr (Sum.inr (Sum.inr c))
abbrev Mem : Type := Nat → Nat → Int → Int
abbrev LV : Type := List (Option AV)
abbrev Po : Type := Option AV → Mem → Prop
abbrev Tr : Type := List AV → Mem → Po → Prop
abbrev Kt : Type := Nat → LV → List AV → Mem → Prop
/-- a row of a method's table: place, instruction, its length, the place behind it, where it may go -/
abbrev IR : Type := Nat × ClassFile.Instr × Nat × Nat × List (Int × Nat)
/-- a method: its rows; its fields (pool number, sort, place, the place as an Int); int constants, and long ones (at their number and 100000); static arrays; calls (not static: at their number and 100000); whether it answers a boolean; the arrays that stay -/
abbrev PG : Type := List IR × List (Nat × Nat × Nat × Int) × List (Nat × Int) × List (Nat × Nat) × List (Nat × Nat × Tr) × Bool × (Nat → Int × (Int → Int))
def oh_nth {α : Type} : List α → Nat → α → α
  | [], _, d => d
  | a :: _, 0, _ => a
  | _ :: l, n + 1, d => oh_nth l n d
def oh_look {α : Type} : List (Nat × α) → Nat → Option α
  | [], _ => none
  | (k, a) :: l, n => match Nat.beq k n with
    | true => some a
    | false => oh_look l n
def oh_put : LV → Nat → Option AV → (LV → Prop) → Prop
  | [], _, _, _ => False
  | _ :: l, 0, v, k => k (v :: l)
  | a :: l, i + 1, v, k => oh_put l i v (fun l' => k (a :: l'))
/-- the local ahead of place i is no long -/
def oh_pl (ls : LV) (i : Nat) : Bool := match i with
  | 0 => true
  | j + 1 => match oh_nth ls j none with
    | some (Sum.inr (Sum.inl _)) => false
    | _ => true
def oh_trK : Nat → LV → (LV → Prop) → Prop
  | _, [], k => k []
  | 0, _ :: l, k => oh_trK 0 l (fun l' => k (none :: l'))
  | n + 1, a :: l, k => oh_trK n l (fun l' => k (a :: l'))
def oh_args : Nat → List AV → List AV → (List AV → List AV → Prop) → Prop
  | 0, st, acc, k => k acc st
  | n + 1, Sum.inl x :: st, acc, k => oh_args n st (Sum.inl x :: acc) k
  | n + 1, Sum.inr (Sum.inl x) :: st, acc, k => oh_args n st (Sum.inr (Sum.inl x) :: acc) k
  | n + 1, Sum.inr (Sum.inr (Sum.inl x)) :: st, acc, k => oh_args n st (Sum.inr (Sum.inr (Sum.inl x)) :: acc) k
  | _ + 1, _, _, _ => False
def oh_cat : List AV → Nat
  | [] => 0
  | Sum.inr (Sum.inl _) :: l => oh_cat l + 2
  | _ :: l => oh_cat l + 1
/-- an array of ints of a sort: its length -/
def oh_lenT : List (Option Int) := [none, some 144, some 144, some 144, some 144, some 6, some 6, none, some 144, none, some 60, none, some 99, none, none, some 6, some 144, some 6, some 12, some 8, some 8, none, none, some 4, some 4, some 240, some 60, some 198, some 2, some 60, some 144, some 80, some 6, some 144, some 144, none, some 144, some 144, some 144, some 144, some 4096, some 24]
def oh_len (s : Nat) : Option Int := oh_nth oh_lenT s none
/-- fields of a sort of objects: (0, ..) int, (1, ..) boolean, (2, t, ..) the same number of sort t, (3, t, c) number c of sort t, (4, ..) final int, (5, ..) final boolean -/
def oh_ftT : List (Nat × List (Nat × Nat × Nat)) :=
  [(0, [(4, 0, 0), (2, 1, 0), (2, 2, 0), (2, 3, 0), (2, 4, 0), (2, 5, 0), (2, 6, 0), (0, 0, 0), (1, 0, 0)]),
   (7, [(2, 8, 0)]),
   (9, [(2, 10, 0), (0, 0, 0), (0, 0, 0)]),
   (11, [(2, 12, 0), (4, 0, 0), (4, 0, 0), (4, 0, 0), (5, 0, 0), (0, 0, 0), (0, 0, 0)]),
   (13, [(3, 11, 0), (3, 11, 1), (3, 7, 0), (3, 7, 1), (2, 14, 0), (2, 15, 0), (2, 16, 0), (2, 17, 0), (2, 18, 0), (2, 19, 0), (2, 20, 0), (2, 21, 0), (0, 0, 0), (0, 0, 0), (0, 0, 0)]),
   (22, [(2, 23, 0), (2, 24, 0), (2, 25, 0), (2, 26, 0), (0, 0, 0), (2, 27, 0), (2, 28, 0), (0, 0, 0), (0, 0, 0), (2, 29, 0), (2, 30, 0), (0, 0, 0), (2, 31, 0), (0, 0, 0), (2, 32, 0), (2, 33, 0), (2, 34, 0), (2, 35, 0), (2, 36, 0), (2, 37, 0), (2, 38, 0), (2, 39, 0), (2, 40, 0), (0, 0, 0), (2, 41, 0)])]
def oh_ft (s k : Nat) : Nat × Nat × Nat := match oh_look oh_ftT s with
  | some l => oh_nth l k (9, 0, 0)
  | none => (9, 0, 0)
def oh_up (μ : Mem) (s n : Nat) (j v : Int) : Mem := fun s' n' j' => if s' = s ∧ n' = n ∧ j' = j then v else μ s' n' j'
def oh_and (x y : Int) : Int := (Int32.ofInt x &&& Int32.ofInt y).toInt
def oh_or (x y : Int) : Int := (Int32.ofInt x ||| Int32.ofInt y).toInt
def oh_xor (x y : Int) : Int := (Int32.ofInt x ^^^ Int32.ofInt y).toInt
def oh_shl (x y : Int) : Int := (Int32.ofInt x <<< (Int32.ofInt y &&& 31)).toInt
def oh_shr (x y : Int) : Int := (Int32.ofInt x >>> (Int32.ofInt y &&& 31)).toInt
def oh_ushr (x y : Int) : Int := ((Int32.ofInt x).toUInt32 >>> ((Int32.ofInt y).toUInt32 &&& Int32.toUInt32 31)).toInt32.toInt
def oh_i2b (x : Int) : Int := (Int32.ofInt x).toInt8.toInt32.toInt
def oh_i2s (x : Int) : Int := (Int32.ofInt x).toInt16.toInt32.toInt
def oh_w64 (x : Int) : Int := (Int64.ofInt x).toInt
def oh_cmp (x y : Int) : Int := if x < y then -1 else if x = y then 0 else 1
def oh_swl (x : Int) : List (Int × Nat) → (Nat → Prop) → Prop
  | [], _ => True
  | (a, t) :: l, k => (x = a → k t) ∧ oh_swl x l k
def oh_br (c : Prop) (tg : List (Int × Nat)) (nx : Nat) (k : Nat → Prop) : Prop := match tg with
  | (_, t) :: _ => (c → k t) ∧ (¬ c → k nx)
  | [] => False
/-- reads of locals, by kind -/
def oh_ldI (ls : LV) (i : Nat) (k : Int → Prop) : Prop := match oh_nth ls i none with
  | some (Sum.inl x) => k x
  | _ => False
def oh_ldL (ls : LV) (i : Nat) (k : Int → Prop) : Prop := match oh_nth ls i none with
  | some (Sum.inr (Sum.inl x)) => k x
  | _ => False
def oh_ldA (ls : LV) (i : Nat) (k : (Nat × Nat) ⊕ Nat → Prop) : Prop := match oh_nth ls i none with
  | some (Sum.inr (Sum.inr x)) => k x
  | _ => False
def oh_st1 (ls : LV) (i : Nat) (v : AV) (k : LV → Prop) : Prop := match oh_pl ls i with
  | true => oh_put ls i (some v) k
  | false => False
def oh_st2 (ls : LV) (i : Nat) (v : AV) (k : LV → Prop) : Prop := match oh_pl ls i with
  | true => oh_put ls i (some v) (fun ls1 => oh_put ls1 (i + 1) none k)
  | false => False
def oh_stI (ls : LV) (i : Nat) (st : List AV) (k : LV → List AV → Prop) : Prop := match st with
  | Sum.inl x :: st1 => oh_st1 ls i (oI x) (fun l => k l st1)
  | _ => False
def oh_stA (ls : LV) (i : Nat) (st : List AV) (k : LV → List AV → Prop) : Prop := match st with
  | Sum.inr (Sum.inr x) :: st1 => oh_st1 ls i (Sum.inr (Sum.inr x)) (fun l => k l st1)
  | _ => False
def oh_stL (ls : LV) (i : Nat) (st : List AV) (k : LV → List AV → Prop) : Prop := match st with
  | Sum.inr (Sum.inl x) :: st1 => oh_st2 ls i (oL x) (fun l => k l st1)
  | _ => False
def oh_b2 (st : List AV) (k : Int → Int → List AV → Prop) : Prop := match st with
  | Sum.inl y :: Sum.inl x :: st1 => k x y st1
  | _ => False
def oh_b1 (st : List AV) (k : Int → List AV → Prop) : Prop := match st with
  | Sum.inl x :: st1 => k x st1
  | _ => False
def oh_l2 (st : List AV) (k : Int → Int → List AV → Prop) : Prop := match st with
  | Sum.inr (Sum.inl y) :: Sum.inr (Sum.inl x) :: st1 => k x y st1
  | _ => False
def oh_rg (x : Int) (A : Prop) : Prop := (-2147483648 ≤ x ∧ x ≤ 2147483647) ∧ A
def oh_get (s0 k : Nat) (o : Int) (st : List AV) (μ : Mem) (K : List AV → Prop) : Prop := match st with
  | Sum.inr (Sum.inr (Sum.inl (s, n))) :: st1 => match Nat.beq s s0 with
    | true => match oh_ft s0 k with
      | (0, _, _) => K (oI (μ s0 n o) :: st1)
      | (1, _, _) => K (oI (μ s0 n o) :: st1)
      | (4, _, _) => K (oI (μ s0 n o) :: st1)
      | (5, _, _) => K (oI (μ s0 n o) :: st1)
      | (2, t, _) => K (oR t n :: st1)
      | (3, t, c) => K (oR t c :: st1)
      | _ => False
    | false => False
  | _ => False
def oh_set (s0 k : Nat) (o : Int) (st : List AV) (μ : Mem) (K : List AV → Mem → Prop) : Prop := match st with
  | Sum.inl v :: Sum.inr (Sum.inr (Sum.inl (s, n))) :: st1 => match Nat.beq s s0 with
    | true => match oh_ft s0 k with
      | (0, _, _) => K st1 (oh_up μ s0 n o v)
      | (1, _, _) => (0 ≤ v ∧ v ≤ 1) ∧ K st1 (oh_up μ s0 n o v)
      | _ => False
    | false => False
  | _ => False
def oh_ald (kc : Nat → Int × (Int → Int)) (st : List AV) (μ : Mem) (K : List AV → Prop) : Prop := match st with
  | Sum.inl i :: Sum.inr (Sum.inr (Sum.inl (s, n))) :: st1 => match oh_len s with
    | some L => (0 ≤ i ∧ i < L) ∧ K (oI (μ s n i) :: st1)
    | none => False
  | Sum.inl i :: Sum.inr (Sum.inr (Sum.inr c)) :: st1 => match kc c with
    | (L, f) => (0 ≤ i ∧ i < L) ∧ K (oI (f i) :: st1)
  | _ => False
def oh_ast (st : List AV) (μ : Mem) (K : List AV → Mem → Prop) : Prop := match st with
  | Sum.inl v :: Sum.inl i :: Sum.inr (Sum.inr (Sum.inl (s, n))) :: st1 => match oh_len s with
    | some L => (0 ≤ i ∧ i < L) ∧ K st1 (oh_up μ s n i v)
    | none => False
  | _ => False
def oh_zld (st : List AV) (μ : Mem) (K : List AV → Prop) : Prop := match st with
  | Sum.inl i :: Sum.inr (Sum.inr (Sum.inl (s, n))) :: st1 => match Nat.beq s 35 with
    | true => (0 ≤ i ∧ i < 20) ∧ K (oI (μ 35 n i) :: st1)
    | false => False
  | _ => False
def oh_zst (st : List AV) (μ : Mem) (K : List AV → Mem → Prop) : Prop := match st with
  | Sum.inl v :: Sum.inl i :: Sum.inr (Sum.inr (Sum.inl (s, n))) :: st1 => match Nat.beq s 35 with
    | true => (0 ≤ i ∧ i < 20) ∧ (0 ≤ v ∧ v ≤ 1) ∧ K st1 (oh_up μ 35 n i v)
    | false => False
  | _ => False
def oh_rld (st : List AV) (K : List AV → Prop) : Prop := match st with
  | Sum.inl i :: Sum.inr (Sum.inr (Sum.inl (s, _))) :: st1 => match Nat.beq s 14 with
    | true => (0 ≤ i ∧ i < 3) ∧ K (oR 0 i.toNat :: st1)
    | false => match Nat.beq s 21 with
      | true => (0 ≤ i ∧ i < 4) ∧ K (oR 9 i.toNat :: st1)
      | false => False
  | _ => False
def oh_aln (kc : Nat → Int × (Int → Int)) (st : List AV) (K : List AV → Prop) : Prop := match st with
  | Sum.inr (Sum.inr (Sum.inl (s, _))) :: st1 => match oh_len s with
    | some L => K (oI L :: st1)
    | none => False
  | Sum.inr (Sum.inr (Sum.inr c)) :: st1 => match kc c with
    | (L, _) => K (oI L :: st1)
  | _ => False
def oh_dup (st : List AV) (K : List AV → Prop) : Prop := match st with
  | Sum.inl x :: st1 => K (oI x :: oI x :: st1)
  | Sum.inr (Sum.inr x) :: st1 => K (Sum.inr (Sum.inr x) :: Sum.inr (Sum.inr x) :: st1)
  | _ => False
def oh_dup2 (st : List AV) (K : List AV → Prop) : Prop := match st with
  | Sum.inl x :: Sum.inr (Sum.inr y) :: st1 => K (oI x :: Sum.inr (Sum.inr y) :: oI x :: Sum.inr (Sum.inr y) :: st1)
  | _ => False
def oh_pop (st : List AV) (K : List AV → Prop) : Prop := match st with
  | Sum.inl _ :: st1 => K st1
  | _ => False
def oh_inv (ca : List (Nat × Nat × Tr)) (idx : Nat) (st : List AV) (μ : Mem) (K : List AV → Mem → Prop) : Prop := match oh_look ca idx with
  | some (na, T) => oh_args na st [] (fun as st1 => match Nat.ble (oh_cat st1) 8 with
    | true => T as μ (fun r μ1 => match r with
      | none => K st1 μ1
      | some v => K (v :: st1) μ1) ∧ True
    | false => False)
  | none => False
def oh_cond (c : ClassFile.Cond) (x y : Int) (tg : List (Int × Nat)) (nx : Nat) (k : Nat → Prop) : Prop := match c with
  | .eq => oh_br (x = y) tg nx k
  | .ne => oh_br (¬ x = y) tg nx k
  | .lt => oh_br (x < y) tg nx k
  | .ge => oh_br (y ≤ x) tg nx k
  | .gt => oh_br (y < x) tg nx k
  | .le => oh_br (x ≤ y) tg nx k
def oh_sem (P : PG) (Post : Po) (K : Kt) (i : ClassFile.Instr) (nx : Nat) (tg : List (Int × Nat)) (ls : LV) (st : List AV) (μ : Mem) : Prop := match i with
  | .iconst n => K nx ls (oI n :: st) μ
  | .bipush n => K nx ls (oI n :: st) μ
  | .sipush n => K nx ls (oI n :: st) μ
  | .lconst n => K nx ls (oL (n.val : Int) :: st) μ
  | .ldc k => match oh_look P.2.2.1 k with
    | some v => K nx ls (oI v :: st) μ
    | none => False
  | .ldc_w k => match oh_look P.2.2.1 k with
    | some v => K nx ls (oI v :: st) μ
    | none => False
  | .ldc2_w k => match oh_look P.2.2.1 (k + 100000) with
    | some v => K nx ls (oL v :: st) μ
    | none => False
  | .iload k => oh_ldI ls k (fun x => K nx ls (oI x :: st) μ)
  | .iload_n k => oh_ldI ls k.val (fun x => K nx ls (oI x :: st) μ)
  | .lload k => oh_ldL ls k (fun x => K nx ls (oL x :: st) μ)
  | .lload_n k => oh_ldL ls k.val (fun x => K nx ls (oL x :: st) μ)
  | .aload k => oh_ldA ls k (fun x => K nx ls (Sum.inr (Sum.inr x) :: st) μ)
  | .aload_n k => oh_ldA ls k.val (fun x => K nx ls (Sum.inr (Sum.inr x) :: st) μ)
  | .istore k => oh_stI ls k st (fun l st1 => K nx l st1 μ)
  | .istore_n k => oh_stI ls k.val st (fun l st1 => K nx l st1 μ)
  | .lstore k => oh_stL ls k st (fun l st1 => K nx l st1 μ)
  | .lstore_n k => oh_stL ls k.val st (fun l st1 => K nx l st1 μ)
  | .astore k => oh_stA ls k st (fun l st1 => K nx l st1 μ)
  | .astore_n k => oh_stA ls k.val st (fun l st1 => K nx l st1 μ)
  | .iinc k n => oh_ldI ls k (fun x => oh_rg (x + n) (oh_st1 ls k (oI (x + n)) (fun l => K nx l st μ)))
  | .iadd => oh_b2 st (fun x y st1 => oh_rg (x + y) (K nx ls (oI (x + y) :: st1) μ))
  | .isub => oh_b2 st (fun x y st1 => oh_rg (x - y) (K nx ls (oI (x - y) :: st1) μ))
  | .imul => oh_b2 st (fun x y st1 => oh_rg (x * y) (K nx ls (oI (x * y) :: st1) μ))
  | .idiv => oh_b2 st (fun x y st1 => (0 ≤ x ∧ 0 < y) ∧ K nx ls (oI (x / y) :: st1) μ)
  | .irem => oh_b2 st (fun x y st1 => (0 ≤ x ∧ 0 < y) ∧ K nx ls (oI (x % y) :: st1) μ)
  | .iand => oh_b2 st (fun x y st1 => K nx ls (oI (oh_and x y) :: st1) μ)
  | .ior => oh_b2 st (fun x y st1 => K nx ls (oI (oh_or x y) :: st1) μ)
  | .ixor => oh_b2 st (fun x y st1 => K nx ls (oI (oh_xor x y) :: st1) μ)
  | .ishl => oh_b2 st (fun x y st1 => K nx ls (oI (oh_shl x y) :: st1) μ)
  | .ishr => oh_b2 st (fun x y st1 => K nx ls (oI (oh_shr x y) :: st1) μ)
  | .iushr => oh_b2 st (fun x y st1 => K nx ls (oI (oh_ushr x y) :: st1) μ)
  | .i2b => oh_b1 st (fun x st1 => K nx ls (oI (oh_i2b x) :: st1) μ)
  | .i2s => oh_b1 st (fun x st1 => K nx ls (oI (oh_i2s x) :: st1) μ)
  | .i2l => oh_b1 st (fun x st1 => K nx ls (oL x :: st1) μ)
  | .ladd => oh_l2 st (fun x y st1 => K nx ls (oL (oh_w64 (x + y)) :: st1) μ)
  | .lmul => oh_l2 st (fun x y st1 => K nx ls (oL (oh_w64 (x * y)) :: st1) μ)
  | .lcmp => oh_l2 st (fun x y st1 => K nx ls (oI (oh_cmp x y) :: st1) μ)
  | .ifCond c _ => oh_b1 st (fun x st1 => oh_cond c x 0 tg nx (fun t => K t ls st1 μ))
  | .if_icmp c _ => oh_b2 st (fun x y st1 => oh_cond c x y tg nx (fun t => K t ls st1 μ))
  | .goto _ => match tg with
    | (_, t) :: _ => K t ls st μ
    | [] => False
  | .tableswitch _ lo hi _ => oh_b1 st (fun x st1 => match tg with
    | (_, t) :: l => (x < lo ∨ hi < x → K t ls st1 μ) ∧ oh_swl x l (fun t => K t ls st1 μ)
    | [] => False)
  | .getfield k => match oh_look P.2.1 k with
    | some (s0, f, o) => oh_get s0 f o st μ (fun st1 => K nx ls st1 μ)
    | none => False
  | .putfield k => match oh_look P.2.1 k with
    | some (s0, f, o) => oh_set s0 f o st μ (fun st1 μ1 => K nx ls st1 μ1)
    | none => False
  | .getstatic k => match oh_look P.2.2.2.1 k with
    | some c => K nx ls (oK c :: st) μ
    | none => False
  | .iaload => oh_ald P.2.2.2.2.2.2 st μ (fun st1 => K nx ls st1 μ)
  | .iastore => oh_ast st μ (fun st1 μ1 => K nx ls st1 μ1)
  | .baload => oh_zld st μ (fun st1 => K nx ls st1 μ)
  | .bastore => oh_zst st μ (fun st1 μ1 => K nx ls st1 μ1)
  | .aaload => oh_rld st (fun st1 => K nx ls st1 μ)
  | .arraylength => oh_aln P.2.2.2.2.2.2 st (fun st1 => K nx ls st1 μ)
  | .dup => oh_dup st (fun st1 => K nx ls st1 μ)
  | .dup2 => oh_dup2 st (fun st1 => K nx ls st1 μ)
  | .pop => oh_pop st (fun st1 => K nx ls st1 μ)
  | .invokestatic k => oh_inv P.2.2.2.2.1 k st μ (fun st1 μ1 => K nx ls st1 μ1)
  | .invokevirtual k => oh_inv P.2.2.2.2.1 (k + 100000) st μ (fun st1 μ1 => K nx ls st1 μ1)
  | .ireturn => match st with
    | [Sum.inl x] => match P.2.2.2.2.2.1 with
      | true => (0 ≤ x ∧ x ≤ 1) ∧ Post (some (oI x)) μ
      | false => Post (some (oI x)) μ
    | _ => False
  | .lreturn => match st with
    | [Sum.inr (Sum.inl x)] => Post (some (oL x)) μ
    | _ => False
  | .areturn => match st with
    | [Sum.inr (Sum.inr (Sum.inl q))] => Post (some (Sum.inr (Sum.inr (Sum.inl q)))) μ
    | _ => False
  | .return_ => match st with
    | [] => Post none μ
    | _ => False
  | _ => False
def oh_step (P : PG) (Post : Po) (K : Kt) (pc : Nat) (ls : LV) (st : List AV) (μ : Mem) : Prop := match oh_look P.1 pc with
  | some (i, _, nx, tg) => oh_sem P Post K i nx tg ls st μ
  | none => False
/-- a claim about states that the machine's steps lead to -/
def oh_Cl (P : PG) (Post : Po) (G : Kt) : Prop :=
  (∀ K : Kt, (∀ pc ls st μ, K pc ls st μ → G pc ls st μ) → ∀ pc ls st μ, oh_step P Post K pc ls st μ → G pc ls st μ) ∧
  ∀ k pc ls st μ, oh_trK k ls (fun l => G pc l st μ) → G pc ls st μ
def oh_wp (P : PG) (Post : Po) (G : Kt) (sp : List (Nat × Nat)) : Nat → Kt
  | 0 => fun pc ls st μ => G pc ls st μ
  | n + 1 => fun pc ls st μ => match oh_look sp pc with
    | some k => oh_trK k ls (fun l => G pc l st μ)
    | none => oh_step P Post (oh_wp P Post G sp n) pc ls st μ
theorem oh_wp_G {P : PG} {Post : Po} {G : Kt} (h : oh_Cl P Post G) (sp : List (Nat × Nat)) : ∀ (n : Nat) pc ls st μ, oh_wp P Post G sp n pc ls st μ → G pc ls st μ := by
  intro n
  induction n with
  | zero => intro pc ls st μ k; exact k
  | succ n ih =>
    intro pc ls st μ k
    unfold oh_wp at k
    split at k
    · exact h.2 _ _ _ _ _ k
    · exact h.1 _ ih _ _ _ _ k
theorem oh_go {P : PG} {Post : Po} {G : Kt} (h : oh_Cl P Post G) (sp : List (Nat × Nat)) (n : Nat) {pc : Nat} {ls : LV} {st : List AV} {μ : Mem} (k : oh_step P Post (oh_wp P Post G sp n) pc ls st μ) : G pc ls st μ := h.1 _ (oh_wp_G h sp n) _ _ _ _ k
/-- the locals at the entry: the arguments (a long takes two places), then what isn't set yet -/
def oh_pad : Nat → (LV → Prop) → Prop
  | 0, k => k []
  | n + 1, k => oh_pad n (fun l => k (none :: l))
def oh_ent : List AV → Nat → (LV → Prop) → Prop
  | [], n, k => oh_pad n k
  | Sum.inr (Sum.inl x) :: l, n + 2, k => oh_ent l n (fun r => k (some (oL x) :: none :: r))
  | Sum.inl x :: l, n + 1, k => oh_ent l n (fun r => k (some (oI x) :: r))
  | Sum.inr (Sum.inr x) :: l, n + 1, k => oh_ent l n (fun r => k (some (Sum.inr (Sum.inr x)) :: r))
  | _ :: _, _, _ => False
def oh_rgI (x : Int) : Prop := -2147483648 ≤ x ∧ x ≤ 2147483647
def oh_rgL (x : Int) : Prop := -9223372036854775808 ≤ x ∧ x ≤ 9223372036854775807
/-- how many of a sort there are -/
def oh_cntT : List Nat := [3, 3, 3, 3, 3, 3, 3, 2, 2, 4, 4, 2, 2, 1, 1, 1, 1, 1, 1, 1, 1, 1, 1, 1, 1, 1, 1, 1, 1, 1, 1, 1, 1, 1, 1, 1, 1, 1, 1, 1, 1, 1]
def oh_cnt (s : Nat) : Nat := oh_nth oh_cntT s 0
def oh_wf (v : AV) : Prop := match v with
  | Sum.inl x => oh_rgI x
  | Sum.inr (Sum.inl x) => oh_rgL x
  | Sum.inr (Sum.inr (Sum.inl q)) => q.2 < oh_cnt q.1
  | Sum.inr (Sum.inr (Sum.inr _)) => True
def oh_wfM (μ : Mem) : Prop := ∀ s n j, oh_rgI (μ s n j)
/-- a method keeps a contract: at its entry, whatever its answer is asked to be -/
def oh_Ok (P : PG) (nL : Nat) (T : Tr) : Prop := ∀ (as : List AV) (μ : Mem) (Post : Po) (G : Kt), oh_Cl P Post G → (∀ v ∈ as, oh_wf v) → oh_wfM μ → T as μ Post → oh_ent as nL (fun ls => G 0 ls [] μ)
/-- loops that count up to a bound -/
theorem oh_for {F : Int → Prop} (hi : Int) (h1 : ∀ c, hi ≤ c → F c) (h2 : ∀ c, c < hi → F (c + 1) → F c) : ∀ c, F c := by
  have key : ∀ (n : Nat) (c : Int), hi - c ≤ n → F c := by
    intro n
    induction n with
    | zero => intro c h; exact h1 c (by omega)
    | succ n ih =>
      intro c h
      by_cases hc : hi ≤ c
      · exact h1 c hc
      · exact h2 c (by omega) (ih (c + 1) (by omega))
  intro c
  exact key (hi - c).toNat c (by omega)
