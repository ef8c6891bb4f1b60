/-! THE ABSTRACT MACHINE: values, memories, one instruction as a predicate transformer, a method as the least predicate closed under its instructions, calls by depth. A memory is any type with the operations of dm_O. -/
abbrev dm_R : Type := Nat × Nat
abbrev dm_V : Type := Int32 ⊕ (Int64 ⊕ Option (Nat × Nat))
abbrev vi (x : Int32) : dm_V := Sum.inl x
abbrev vl (x : Int64) : dm_V := Sum.inr (Sum.inl x)
abbrev vr (t i : Nat) : dm_V := Sum.inr (Sum.inr (some (t, i)))
/-- what an array holds -/
abbrev dm_X : Type := (Nat → Int32) ⊕ ((Nat → Int64) ⊕ (Nat → Option (Nat × Nat)))
/-- a cell: an object of a class (by its number) with its fields, or an array -/
abbrev dm_C : Type := (Nat × List dm_V) ⊕ (FieldType × Nat × dm_X)
/-- get r class field; put; an array; a store into one; a new object; a new array; whether a call fits, the memory as the callee gets it, the memory behind it -/
abbrev dm_O (μ : Type) : Type :=
  (μ → dm_R → Nat → Nat → Option dm_V) × (μ → dm_R → Nat → Nat → dm_V → Option μ) × (μ → dm_R → Option (FieldType × Nat × dm_X)) × (μ → dm_R → Nat → dm_V → Option μ) × (μ → Nat → Option (dm_R × μ)) × (μ → FieldType → Nat → Option (dm_R × μ)) × (μ → Nat → Bool) × (μ → Nat → μ) × (μ → μ → Nat → μ)
/-- a method: number of its class, locals, what it returns, its instructions -/
abbrev dm_M : Type := Nat × Nat × Option FieldType × (Nat → Option Instr)
/-- the pools: fields (class, place), methods (number, arguments with the receiver, kind of answer, class of the receiver or 99), classes, constants, statics, each by class and entry -/
abbrev dm_E : Type := (Nat → Nat → Option (Nat × Nat)) × (Nat → Nat → Option (Nat × Nat × Nat × Nat)) × (Nat → Nat → Option Nat) × (Nat → Nat → Option dm_V) × (Nat → Nat → Option dm_V) × (Nat → Nat) × (Nat → Nat → Int32)
/-- the classes by their numbers -/
def dm_cnl : List String := ["MistakesLent$Deed", "MistakesLent$Desk", "MistakesLent$History", "MistakesLent$Lending", "MistakesLent$Maker", "MistakesLent$Museum", "MistakesLent$Need", "MistakesLent$Reader", "MistakesLent$Runner", "MistakesLent$Slip", "MistakesLent$Steps", "MistakesLent$Tokens", "MistakesLent", "MistakesLentModel", "MistakesLentLaw", "java/lang/Integer"]
def dm_cn (c : Nat) : String := dm_cnl.getD c ""
abbrev dm_L : Type := List (Option dm_V)
def dm_nth : dm_L → Nat → Option dm_V
  | [], _ => none
  | x :: _, 0 => x
  | _ :: l, n + 1 => dm_nth l n
def dm_set : dm_L → Nat → Option dm_V → dm_L
  | [], _, _ => []
  | _ :: l, 0, v => v :: l
  | x :: l, n + 1, v => x :: dm_set l n v
/-- the local ahead of place i is no long -/
def dm_noL : dm_L → Nat → Bool
  | [], _ => true
  | _, 0 => true
  | some (.inr (.inl _)) :: _, 1 => false
  | _ :: _, 1 => true
  | _ :: l, n + 2 => dm_noL l (n + 1)
def dm_cat : List dm_V → Nat
  | [] => 0
  | .inr (.inl _) :: l => 2 + dm_cat l
  | _ :: l => 1 + dm_cat l
def dm_is (b : Bool) (K : Prop) : Prop := match b with
  | true => K
  | false => False
/-- a new local of one place -/
def dm_st1 (ls : dm_L) (i : Nat) (v : dm_V) (K : dm_L → Prop) : Prop := dm_is (Nat.blt i ls.length) (dm_is (dm_noL ls i) (K (dm_set ls i (some v))))
def dm_st2 (ls : dm_L) (i : Nat) (v : dm_V) (K : dm_L → Prop) : Prop := dm_is (Nat.blt (i + 1) ls.length) (dm_is (dm_noL ls i) (K (dm_set (dm_set ls i (some v)) (i + 1) none)))
def dm_ldI (ls : dm_L) (i : Nat) (K : Int32 → Prop) : Prop := match dm_nth ls i with
  | some (.inl x) => K x
  | _ => False
def dm_ldL (ls : dm_L) (i : Nat) (K : Int64 → Prop) : Prop := match dm_nth ls i with
  | some (.inr (.inl x)) => K x
  | _ => False
def dm_ldR (ls : dm_L) (i : Nat) (K : Nat → Nat → Prop) : Prop := match dm_nth ls i with
  | some (.inr (.inr (some (t, j)))) => K t j
  | _ => False
def dm_1 (st : List dm_V) (K : Int32 → List dm_V → Prop) : Prop := match st with
  | .inl x :: l => K x l
  | _ => False
def dm_2 (st : List dm_V) (K : Int32 → Int32 → List dm_V → Prop) : Prop := match st with
  | .inl y :: .inl x :: l => K x y l
  | _ => False
def dm_22 (st : List dm_V) (K : Int64 → Int64 → List dm_V → Prop) : Prop := match st with
  | .inr (.inl y) :: .inr (.inl x) :: l => K x y l
  | _ => False
def dm_r (st : List dm_V) (K : Nat → Nat → List dm_V → Prop) : Prop := match st with
  | .inr (.inr (some (t, i))) :: l => K t i l
  | _ => False
/-- a value of one place -/
def dm_v1 (st : List dm_V) (K : dm_V → List dm_V → Prop) : Prop := match st with
  | .inl x :: l => K (.inl x) l
  | .inr (.inr x) :: l => K (.inr (.inr x)) l
  | _ => False
/-- any value on top -/
def dm_v (st : List dm_V) (K : dm_V → List dm_V → Prop) : Prop := match st with
  | x :: l => K x l
  | _ => False
/-- an index above an array -/
def dm_ir (st : List dm_V) (K : Int32 → Nat → Nat → List dm_V → Prop) : Prop := match st with
  | .inl x :: .inr (.inr (some (t, i))) :: l => K x t i l
  | _ => False
def dm_so {α : Type} (o : Option α) (K : α → Prop) : Prop := match o with
  | some x => K x
  | none => False
/-- an index within an array -/
def dm_ix (x : Int32) (n : Nat) (K : Prop) : Prop := if x < 0 ∨ n ≤ x.toNatClampNeg then False else K
/-- two ints compared -/
def dm_cmp (c : Jvm.ClassFile.Cond) (x y : Int32) (A B : Prop) : Prop := match c with
  | .eq => if x = y then A else B
  | .ne => if x = y then B else A
  | .lt => if x < y then A else B
  | .ge => if x < y then B else A
  | .gt => if y < x then A else B
  | .le => if y < x then B else A
def dm_tg (pc : Nat) (off : Int) (K : Nat → Prop) : Prop := match (pc : Int) + off with
  | .ofNat n => K n
  | .negSucc _ => False
/-- a switch: its cases one after the other -/
def dm_sw (pc : Nat) (x : Int32) (d : Int) (K : Nat → Prop) : Int → List Int → Prop
  | _, [] => dm_tg pc d K
  | lo, o :: l => if x = Int32.ofInt lo then dm_tg pc o K else dm_sw pc x d K (lo + 1) l
/-- what a call answers, by its kind: nothing, an int, a reference to steps, a long -/
def dm_rt (rk : Nat) (r : Option dm_V) (K : List dm_V → Prop) : Prop := match rk with
  | 0 => r = none ∧ K []
  | 1 => ∃ v : Int32, r = some (vi v) ∧ K [vi v]
  | 2 => ∃ i : Nat, r = some (vr 10 i) ∧ K [vr 10 i]
  | 3 => ∃ v : Int64, r = some (vl v) ∧ K [vl v]
  | _ => False
def dm_ent (n : Nat) (args : List dm_V) : dm_L := args.map some ++ List.replicate (n - args.length) none
/-- the receiver of a call is of its class -/
def dm_rc {μ : Type} (O : dm_O μ) (σ : μ) (c : Nat) (args : List dm_V) (K : Prop) : Prop := match Nat.beq c 99 with
  | true => K
  | false => match args with
    | .inr (.inr (some r)) :: _ => dm_so (O.1 σ r c 0) (fun _ => K)
    | _ => False
section DMF
variable {μ : Type} (E : dm_E) (O : dm_O μ) (call : Nat → List dm_V → μ → (Option dm_V → μ → Prop) → Prop) (bi : Bool) (M : dm_M) (Q : Option dm_V → μ → Prop) (P : Nat → dm_L → List dm_V → μ → Prop)
/-- a call: numbers from 3000 on are the JDK's: Object(), Math.max, Math.min, String.length, String.charAt -/
def dm_inv (pc : Nat) (ls : dm_L) (st : List dm_V) (σ : μ) (idx : Nat) : Prop := dm_so (E.2.1 M.1 idx) (fun q => match q with
  | (3000, _, _, _) => dm_is bi (dm_r st (fun _ _ l => dm_is (Nat.ble (dm_cat l) 8) (P (pc + 3) ls l σ)))
  | (3001, _, _, _) => dm_is bi (dm_2 st (fun x y l => dm_is (Nat.ble (dm_cat l) 8) (P (pc + 3) ls (vi (if x < y then y else x) :: l) σ)))
  | (3002, _, _, _) => dm_is bi (dm_2 st (fun x y l => dm_is (Nat.ble (dm_cat l) 8) (P (pc + 3) ls (vi (if y < x then y else x) :: l) σ)))
  | (3003, _, _, _) => dm_is bi (dm_r st (fun t i l => dm_is (Nat.beq t 90) (dm_is (Nat.ble (dm_cat l) 8) (P (pc + 3) ls (vi (nI (E.2.2.2.2.2.1 i)) :: l) σ))))
  | (3004, _, _, _) => dm_is bi (dm_ir st (fun x t i l => dm_is (Nat.beq t 90) (dm_is (Nat.ble (dm_cat l) 8) (dm_ix x (E.2.2.2.2.2.1 i) (P (pc + 3) ls (vi (E.2.2.2.2.2.2 i x.toNatClampNeg) :: l) σ)))))
  | (y, n, rk, c) => dm_is (Nat.ble n st.length) (dm_is (Nat.ble (dm_cat (st.drop n)) 8) (dm_is (Nat.beq (dm_cat (st.take n)) n) (dm_is (O.2.2.2.2.2.2.1 σ y) (dm_rc O σ c (st.take n).reverse (call y (st.take n).reverse (O.2.2.2.2.2.2.2.1 σ y) (fun r σ' => dm_rt rk r (fun vs => P (pc + 3) ls (vs ++ st.drop n) (O.2.2.2.2.2.2.2.2 σ σ' y)))))))))
/-- loads, constants, arithmetic -/
def dm_FA (pc : Nat) (ls : dm_L) (st : List dm_V) (σ : μ) (i : Instr) : Prop := match i with
  | .aload n => dm_ldR ls n (fun t i => P (pc + 2) ls (vr t i :: st) σ)
  | .aload_n n => dm_ldR ls n.val (fun t i => P (pc + 1) ls (vr t i :: st) σ)
  | .iload n => dm_ldI ls n (fun x => P (pc + 2) ls (vi x :: st) σ)
  | .iload_n n => dm_ldI ls n.val (fun x => P (pc + 1) ls (vi x :: st) σ)
  | .lload_n n => dm_ldL ls n.val (fun x => P (pc + 1) ls (vl x :: st) σ)
  | .astore n => dm_r st (fun t i l => dm_st1 ls n (vr t i) (fun ls => P (pc + 2) ls l σ))
  | .astore_n n => dm_r st (fun t i l => dm_st1 ls n.val (vr t i) (fun ls => P (pc + 1) ls l σ))
  | .istore n => dm_1 st (fun x l => dm_st1 ls n (vi x) (fun ls => P (pc + 2) ls l σ))
  | .istore_n n => dm_1 st (fun x l => dm_st1 ls n.val (vi x) (fun ls => P (pc + 1) ls l σ))
  | .lstore_n n => match st with
    | .inr (.inl x) :: l => dm_st2 ls n.val (vl x) (fun ls => P (pc + 1) ls l σ)
    | _ => False
  | .iinc n k => dm_ldI ls n (fun x => dm_st1 ls n (vi (x + Int32.ofInt k)) (fun ls => P (pc + 3) ls st σ))
  | .iconst k => P (pc + 1) ls (vi (Int32.ofInt k) :: st) σ
  | .bipush k => P (pc + 2) ls (vi (Int8.ofInt k).toInt32 :: st) σ
  | .sipush k => P (pc + 3) ls (vi (Int16.ofInt k).toInt32 :: st) σ
  | .lconst k => P (pc + 1) ls (vl (Int64.ofNat k.val) :: st) σ
  | .iadd => dm_2 st (fun x y l => P (pc + 1) ls (vi (x + y) :: l) σ)
  | .isub => dm_2 st (fun x y l => P (pc + 1) ls (vi (x - y) :: l) σ)
  | .imul => dm_2 st (fun x y l => P (pc + 1) ls (vi (x * y) :: l) σ)
  | .iand => dm_2 st (fun x y l => P (pc + 1) ls (vi (x &&& y) :: l) σ)
  | .ior => dm_2 st (fun x y l => P (pc + 1) ls (vi (x ||| y) :: l) σ)
  | .ixor => dm_2 st (fun x y l => P (pc + 1) ls (vi (x ^^^ y) :: l) σ)
  | .ishl => dm_2 st (fun x y l => P (pc + 1) ls (vi (x <<< (y &&& 31)) :: l) σ)
  | .ishr => dm_2 st (fun x y l => P (pc + 1) ls (vi (x >>> (y &&& 31)) :: l) σ)
  | .iushr => dm_2 st (fun x y l => P (pc + 1) ls (vi (x.toUInt32 >>> (y.toUInt32 &&& Int32.toUInt32 31)).toInt32 :: l) σ)
  | .ineg => dm_1 st (fun x l => P (pc + 1) ls (vi (-x) :: l) σ)
  | .idiv => dm_2 st (fun x y l => dm_is (!(y == 0)) (P (pc + 1) ls (vi (x / y) :: l) σ))
  | .irem => dm_2 st (fun x y l => dm_is (!(y == 0)) (P (pc + 1) ls (vi (x - x / y * y) :: l) σ))
  | .i2b => dm_1 st (fun x l => P (pc + 1) ls (vi x.toInt8.toInt32 :: l) σ)
  | .i2l => dm_1 st (fun x l => P (pc + 1) ls (vl x.toInt64 :: l) σ)
  | .ladd => dm_22 st (fun x y l => P (pc + 1) ls (vl (x + y) :: l) σ)
  | .lmul => dm_22 st (fun x y l => P (pc + 1) ls (vl (x * y) :: l) σ)
  | .lcmp => dm_22 st (fun x y l => P (pc + 1) ls (vi (lg_cmp x y) :: l) σ)
  | .dup => dm_v1 st (fun v l => P (pc + 1) ls (v :: v :: l) σ)
  | .pop => dm_v1 st (fun _ l => P (pc + 1) ls l σ)
  | .dup2 => dm_v1 st (fun v l => dm_v1 l (fun w l => P (pc + 1) ls (v :: w :: v :: w :: l) σ))
  | .ldc k => dm_so (E.2.2.2.1 M.1 k) (fun v => P (pc + 2) ls (v :: st) σ)
  | .ldc_w k => dm_so (E.2.2.2.1 M.1 k) (fun v => P (pc + 3) ls (v :: st) σ)
  | .ldc2_w k => dm_so (E.2.2.2.1 M.1 k) (fun v => P (pc + 3) ls (v :: st) σ)
  | .getstatic k => dm_so (E.2.2.2.2.1 M.1 k) (fun v => P (pc + 3) ls (v :: st) σ)
  | _ => False
/-- memory -/
def dm_FM (pc : Nat) (ls : dm_L) (st : List dm_V) (σ : μ) (i : Instr) : Prop := match i with
  | .getfield k => dm_r st (fun t i l => dm_so (E.1 M.1 k) (fun q => dm_so (O.1 σ (t, i) q.1 q.2) (fun v => P (pc + 3) ls (v :: l) σ)))
  | .putfield k => dm_v st (fun v l => dm_r l (fun t i l => dm_so (E.1 M.1 k) (fun q => dm_so (O.2.1 σ (t, i) q.1 q.2 v) (fun σ => P (pc + 3) ls l σ))))
  | .arraylength => dm_r st (fun t i l => dm_so (O.2.2.1 σ (t, i)) (fun q => P (pc + 1) ls (vi (nI q.2.1) :: l) σ))
  | .iaload => dm_ir st (fun x t i l => dm_so (O.2.2.1 σ (t, i)) (fun q => match q with
    | (.int, n, .inl f) => dm_ix x n (P (pc + 1) ls (vi (f x.toNatClampNeg) :: l) σ)
    | _ => False))
  | .baload => dm_ir st (fun x t i l => dm_so (O.2.2.1 σ (t, i)) (fun q => match q with
    | (.byte, n, .inl f) => dm_ix x n (P (pc + 1) ls (vi (f x.toNatClampNeg) :: l) σ)
    | (.boolean, n, .inl f) => dm_ix x n (P (pc + 1) ls (vi (f x.toNatClampNeg) :: l) σ)
    | _ => False))
  | .laload => dm_ir st (fun x t i l => dm_so (O.2.2.1 σ (t, i)) (fun q => match q with
    | (.long, n, .inr (.inl f)) => dm_ix x n (P (pc + 1) ls (vl (f x.toNatClampNeg) :: l) σ)
    | _ => False))
  | .aaload => dm_ir st (fun x t i l => dm_so (O.2.2.1 σ (t, i)) (fun q => match q with
    | (.object _, n, .inr (.inr f)) => dm_ix x n (P (pc + 1) ls (.inr (.inr (f x.toNatClampNeg)) :: l) σ)
    | _ => False))
  | .iastore => dm_1 st (fun z l => dm_ir l (fun x t i l => dm_so (O.2.2.1 σ (t, i)) (fun q => match q with
    | (.int, n, .inl _) => dm_ix x n (dm_so (O.2.2.2.1 σ (t, i) x.toNatClampNeg (vi z)) (fun σ => P (pc + 1) ls l σ))
    | _ => False)))
  | .bastore => dm_1 st (fun z l => dm_ir l (fun x t i l => dm_so (O.2.2.1 σ (t, i)) (fun q => match q with
    | (.byte, n, .inl _) => dm_ix x n (dm_so (O.2.2.2.1 σ (t, i) x.toNatClampNeg (vi z.toInt8.toInt32)) (fun σ => P (pc + 1) ls l σ))
    | (.boolean, n, .inl _) => dm_ix x n (dm_so (O.2.2.2.1 σ (t, i) x.toNatClampNeg (vi (z &&& 1))) (fun σ => P (pc + 1) ls l σ))
    | _ => False)))
  | .lastore => match st with
    | .inr (.inl z) :: l => dm_ir l (fun x t i l => dm_so (O.2.2.1 σ (t, i)) (fun q => match q with
      | (.long, n, .inr (.inl _)) => dm_ix x n (dm_so (O.2.2.2.1 σ (t, i) x.toNatClampNeg (vl z)) (fun σ => P (pc + 1) ls l σ))
      | _ => False))
    | _ => False
  | .aastore => dm_r st (fun t' i' l => dm_ir l (fun x t i l => dm_so (O.2.2.1 σ (t, i)) (fun q => match q with
    | (.object _, n, .inr (.inr _)) => dm_ix x n (dm_so (O.2.2.2.1 σ (t, i) x.toNatClampNeg (vr t' i')) (fun σ => P (pc + 1) ls l σ))
    | _ => False)))
  | .new k => dm_so (E.2.2.1 M.1 k) (fun ci => dm_so (O.2.2.2.2.1 σ ci) (fun q => P (pc + 3) ls (vr q.1.1 q.1.2 :: st) q.2))
  | .anewarray k => dm_1 st (fun n l => dm_is (!(decide (n < 0))) (dm_so (E.2.2.1 M.1 k) (fun ci => dm_so (O.2.2.2.2.2.1 σ (.object (dm_cn ci)) n.toNatClampNeg) (fun q => P (pc + 3) ls (vr q.1.1 q.1.2 :: l) q.2))))
  | .newarray ty => dm_1 st (fun n l => dm_is (!(decide (n < 0))) (dm_so (O.2.2.2.2.2.1 σ (newarray.typeOf ty) n.toNatClampNeg) (fun q => P (pc + 2) ls (vr q.1.1 q.1.2 :: l) q.2)))
  | _ => False
/-- where it goes on -/
def dm_FC (pc : Nat) (ls : dm_L) (st : List dm_V) (σ : μ) (i : Instr) : Prop := match i with
  | .if_icmp c off => dm_2 st (fun x y l => dm_cmp c x y (dm_tg pc off (fun n => P n ls l σ)) (P (pc + 3) ls l σ))
  | .ifCond c off => dm_1 st (fun x l => dm_cmp c x 0 (dm_tg pc off (fun n => P n ls l σ)) (P (pc + 3) ls l σ))
  | .goto off => dm_tg pc off (fun n => P n ls st σ)
  | .tableswitch d lo _ offs => dm_1 st (fun x l => dm_sw pc x d (fun n => P n ls l σ) lo offs.toList)
  | .ireturn => match st, M.2.2.1 with
    | [.inl v], some .int => Q (some (vi v)) σ
    | [.inl v], some .boolean => Q (some (vi (v &&& 1))) σ
    | _, _ => False
  | .lreturn => match st, M.2.2.1 with
    | [.inr (.inl v)], some .long => Q (some (vl v)) σ
    | _, _ => False
  | .areturn => match st, M.2.2.1 with
    | [.inr (.inr (some (t, i)))], some (.object _) => Q (some (vr t i)) σ
    | _, _ => False
  | .return_ => match st, M.2.2.1 with
    | [], none => Q none σ
    | _, _ => False
  | .invokevirtual k => dm_inv E O call bi M P pc ls st σ k
  | .invokespecial k => dm_inv E O call bi M P pc ls st σ k
  | .invokestatic k => dm_inv E O call bi M P pc ls st σ k
  | _ => False
/-- which of the three an instruction is of -/
def dm_cls : Instr → Nat
  | .getfield _ | .putfield _ | .arraylength | .iaload | .baload | .laload | .aaload | .iastore | .bastore | .lastore | .aastore | .new _ | .newarray _ | .anewarray _ => 1
  | .if_icmp _ _ | .ifCond _ _ | .goto _ | .tableswitch _ _ _ _ | .ireturn | .lreturn | .areturn | .return_ | .invokevirtual _ | .invokespecial _ | .invokestatic _ => 2
  | _ => 0
def dm_FI (pc : Nat) (ls : dm_L) (st : List dm_V) (σ : μ) (i : Instr) : Prop := match dm_cls i with
  | 0 => dm_FA E M P pc ls st σ i
  | 1 => dm_FM E O M P pc ls st σ i
  | _ => dm_FC E O call bi M Q P pc ls st σ i
def dm_F (pc : Nat) (ls : dm_L) (st : List dm_V) (σ : μ) : Prop := dm_so (M.2.2.2 pc) (fun i => dm_FI E O call bi M Q P pc ls st σ i)
end DMF
/-- fewer locals known -/
def dm_le : dm_L → dm_L → Prop
  | [], [] => True
  | x :: l, y :: m => (x = none ∨ x = y) ∧ dm_le l m
  | _, _ => False
/-- from here the method comes to an end with Q -/
def dm_Go {μ : Type} (E : dm_E) (O : dm_O μ) (call : Nat → List dm_V → μ → (Option dm_V → μ → Prop) → Prop) (bi : Bool) (M : dm_M) (Q : Option dm_V → μ → Prop) (pc : Nat) (ls : dm_L) (st : List dm_V) (σ : μ) : Prop :=
  ∀ P : Nat → dm_L → List dm_V → μ → Prop, (∀ pc ls st σ, dm_F E O call bi M Q P pc ls st σ → P pc ls st σ) → (∀ pc ls0 ls st σ, dm_le ls0 ls → P pc ls0 st σ → P pc ls st σ) → P pc ls st σ
/-- a call of the method y with d frames of room -/
def dm_Call {μ : Type} (E : dm_E) (O : dm_O μ) (prog : Nat → dm_M) : Nat → Nat → List dm_V → μ → (Option dm_V → μ → Prop) → Prop
  | 0 => fun y args σ Q => dm_Go E O (fun _ _ _ _ => False) false (prog y) Q 0 (dm_ent (prog y).2.1 args) [] σ
  | d + 1 => fun y args σ Q => dm_Go E O (dm_Call E O prog d) (Nat.ble 4 (d + 1)) (prog y) Q 0 (dm_ent (prog y).2.1 args) [] σ
