/-! the abstract machine decides itself where all is known: for the constructors -/
def dm_is_d {b : Bool} {K : Prop} (h : Decidable K) : Decidable (dm_is b K) := match b with
  | true => h
  | false => instDecidableFalse
def dm_so_d {α : Type} {o : Option α} {K : α → Prop} (h : ∀ x, Decidable (K x)) : Decidable (dm_so o K) := match o with
  | some x => h x
  | none => instDecidableFalse
def dm_1_d {st : List dm_V} {K : Int32 → List dm_V → Prop} (h : ∀ x l, Decidable (K x l)) : Decidable (dm_1 st K) := match st with
  | .inl x :: l => h x l
  | .inr _ :: _ => instDecidableFalse
  | [] => instDecidableFalse
def dm_2_d {st : List dm_V} {K : Int32 → Int32 → List dm_V → Prop} (h : ∀ x y l, Decidable (K x y l)) : Decidable (dm_2 st K) := match st with
  | .inl y :: .inl x :: l => h x y l
  | .inl _ :: .inr _ :: _ => instDecidableFalse
  | [.inl _] => instDecidableFalse
  | .inr _ :: _ => instDecidableFalse
  | [] => instDecidableFalse
def dm_22_d {st : List dm_V} {K : Int64 → Int64 → List dm_V → Prop} (h : ∀ x y l, Decidable (K x y l)) : Decidable (dm_22 st K) := match st with
  | .inr (.inl y) :: .inr (.inl x) :: l => h x y l
  | .inr (.inl _) :: .inr (.inr _) :: _ => instDecidableFalse
  | .inr (.inl _) :: .inl _ :: _ => instDecidableFalse
  | [.inr (.inl _)] => instDecidableFalse
  | .inr (.inr _) :: _ => instDecidableFalse
  | .inl _ :: _ => instDecidableFalse
  | [] => instDecidableFalse
def dm_r_d {st : List dm_V} {K : Nat → Nat → List dm_V → Prop} (h : ∀ t i l, Decidable (K t i l)) : Decidable (dm_r st K) := match st with
  | .inr (.inr (some (t, i))) :: l => h t i l
  | .inr (.inr none) :: _ => instDecidableFalse
  | .inr (.inl _) :: _ => instDecidableFalse
  | .inl _ :: _ => instDecidableFalse
  | [] => instDecidableFalse
def dm_v1_d {st : List dm_V} {K : dm_V → List dm_V → Prop} (h : ∀ v l, Decidable (K v l)) : Decidable (dm_v1 st K) := match st with
  | .inl x :: l => h (.inl x) l
  | .inr (.inr x) :: l => h (.inr (.inr x)) l
  | .inr (.inl _) :: _ => instDecidableFalse
  | [] => instDecidableFalse
def dm_v_d {st : List dm_V} {K : dm_V → List dm_V → Prop} (h : ∀ v l, Decidable (K v l)) : Decidable (dm_v st K) := match st with
  | x :: l => h x l
  | [] => instDecidableFalse
def dm_ir_d {st : List dm_V} {K : Int32 → Nat → Nat → List dm_V → Prop} (h : ∀ x t i l, Decidable (K x t i l)) : Decidable (dm_ir st K) := match st with
  | .inl x :: .inr (.inr (some (t, i))) :: l => h x t i l
  | .inl _ :: .inr (.inr none) :: _ => instDecidableFalse
  | .inl _ :: .inr (.inl _) :: _ => instDecidableFalse
  | .inl _ :: .inl _ :: _ => instDecidableFalse
  | [.inl _] => instDecidableFalse
  | .inr _ :: _ => instDecidableFalse
  | [] => instDecidableFalse
def dm_ldI_d {ls : dm_L} {i : Nat} {K : Int32 → Prop} (h : ∀ x, Decidable (K x)) : Decidable (dm_ldI ls i K) := by
  unfold dm_ldI
  exact (match dm_nth ls i with
    | some (.inl x) => h x
    | some (.inr _) => instDecidableFalse
    | none => instDecidableFalse)
def dm_ldL_d {ls : dm_L} {i : Nat} {K : Int64 → Prop} (h : ∀ x, Decidable (K x)) : Decidable (dm_ldL ls i K) := by
  unfold dm_ldL
  exact (match dm_nth ls i with
    | some (.inr (.inl x)) => h x
    | some (.inr (.inr _)) => instDecidableFalse
    | some (.inl _) => instDecidableFalse
    | none => instDecidableFalse)
def dm_ldR_d {ls : dm_L} {i : Nat} {K : Nat → Nat → Prop} (h : ∀ t j, Decidable (K t j)) : Decidable (dm_ldR ls i K) := by
  unfold dm_ldR
  exact (match dm_nth ls i with
    | some (.inr (.inr (some (t, j)))) => h t j
    | some (.inr (.inr none)) => instDecidableFalse
    | some (.inr (.inl _)) => instDecidableFalse
    | some (.inl _) => instDecidableFalse
    | none => instDecidableFalse)
def dm_if_d {c A B : Prop} [d : Decidable c] (h1 : Decidable A) (h2 : Decidable B) : Decidable (if c then A else B) := match d with
  | isTrue _ => h1
  | isFalse _ => h2
def dm_ix_d {x : Int32} {n : Nat} {K : Prop} (h : Decidable K) : Decidable (dm_ix x n K) := dm_if_d instDecidableFalse h
def dm_st1_d {ls : dm_L} {i : Nat} {v : dm_V} {K : dm_L → Prop} (h : ∀ ls, Decidable (K ls)) : Decidable (dm_st1 ls i v K) := dm_is_d (dm_is_d (h _))
def dm_st2_d {ls : dm_L} {i : Nat} {v : dm_V} {K : dm_L → Prop} (h : ∀ ls, Decidable (K ls)) : Decidable (dm_st2 ls i v K) := dm_is_d (dm_is_d (h _))
def dm_cmp_d {c : Jvm.ClassFile.Cond} {x y : Int32} {A B : Prop} (h1 : Decidable A) (h2 : Decidable B) : Decidable (dm_cmp c x y A B) := match c with
  | .eq => dm_if_d h1 h2
  | .ne => dm_if_d h2 h1
  | .lt => dm_if_d h1 h2
  | .ge => dm_if_d h2 h1
  | .gt => dm_if_d h1 h2
  | .le => dm_if_d h2 h1
def dm_tg_d {pc : Nat} {off : Int} {K : Nat → Prop} (h : ∀ n, Decidable (K n)) : Decidable (dm_tg pc off K) := by
  unfold dm_tg
  exact (match (pc : Int) + off with
    | .ofNat n => h n
    | .negSucc _ => instDecidableFalse)
noncomputable def dm_rt_d {rk : Nat} {r : Option dm_V} {K : List dm_V → Prop} (h : ∀ vs, Decidable (K vs)) : Decidable (dm_rt rk r K) := match rk with
  | 0 => match r with
    | none => match h [] with
      | isTrue q => isTrue ⟨rfl, q⟩
      | isFalse q => isFalse (fun z => q z.2)
    | some _ => isFalse (fun z => by cases z.1)
  | 1 => match r with
    | some (.inl v) => match h [vi v] with
      | isTrue q => isTrue ⟨v, rfl, q⟩
      | isFalse q => isFalse (fun ⟨w, e, z⟩ => by cases e; exact q z)
    | some (.inr _) => isFalse (fun ⟨w, e, z⟩ => by cases e)
    | none => isFalse (fun ⟨w, e, z⟩ => by cases e)
  | 2 => Classical.propDecidable _
  | 3 => match r with
    | some (.inr (.inl v)) => match h [vl v] with
      | isTrue q => isTrue ⟨v, rfl, q⟩
      | isFalse q => isFalse (fun ⟨w, e, z⟩ => by cases e; exact q z)
    | some (.inr (.inr _)) => isFalse (fun ⟨w, e, z⟩ => by cases e)
    | some (.inl _) => isFalse (fun ⟨w, e, z⟩ => by cases e)
    | none => isFalse (fun ⟨w, e, z⟩ => by cases e)
  | _ + 4 => Classical.propDecidable _
section EVD
variable {μ : Type} {E : dm_E} {O : dm_O μ} {call : Nat → List dm_V → μ → (Option dm_V → μ → Prop) → Prop} {bi : Bool} {M : dm_M} {Q : Option dm_V → μ → Prop} {P : Nat → dm_L → List dm_V → μ → Prop}
def dm_rc_d {σ : μ} {c : Nat} {args : List dm_V} {K : Prop} (h : Decidable K) : Decidable (dm_rc O σ c args K) := by
  unfold dm_rc
  exact (match Nat.beq c 99 with
    | true => h
    | false => match args with
      | .inr (.inr (some r)) :: _ => dm_so_d (fun _ => h)
      | .inr (.inr none) :: _ => instDecidableFalse
      | .inr (.inl _) :: _ => instDecidableFalse
      | .inl _ :: _ => instDecidableFalse
      | [] => instDecidableFalse)
noncomputable def dm_FA_d (hP : ∀ pc ls st σ, Decidable (P pc ls st σ)) (pc : Nat) (ls : dm_L) (st : List dm_V) (σ : μ) (i : Instr) : Decidable (dm_FA E M P pc ls st σ i) := match i with
  | .aload_n n => dm_ldR_d (fun _ _ => hP _ _ _ _)
  | .iload_n n => dm_ldI_d (fun _ => hP _ _ _ _)
  | .lload_n n => dm_ldL_d (fun _ => hP _ _ _ _)
  | .istore_n n => show Decidable (dm_1 st (fun x l => dm_st1 ls n.val (vi x) (fun ls => P (pc + 1) ls l σ))) from dm_1_d (fun _ _ => dm_st1_d (fun _ => hP _ _ _ _))
  | .astore_n n => show Decidable (dm_r st (fun t i l => dm_st1 ls n.val (vr t i) (fun ls => P (pc + 1) ls l σ))) from dm_r_d (fun _ _ _ => dm_st1_d (fun _ => hP _ _ _ _))
  | .iinc n k => show Decidable (dm_ldI ls n (fun x => dm_st1 ls n (vi (x + Int32.ofInt k)) (fun ls => P (pc + 3) ls st σ))) from dm_ldI_d (fun _ => dm_st1_d (fun _ => hP _ _ _ _))
  | .lstore_n n => match st with
    | .inr (.inl x) :: l => show Decidable (dm_st2 ls n.val (vl x) (fun ls => P (pc + 1) ls l σ)) from dm_st2_d (fun _ => hP _ _ _ _)
    | .inr (.inr _) :: _ => instDecidableFalse
    | .inl _ :: _ => instDecidableFalse
    | [] => instDecidableFalse
  | .iconst k => hP _ _ _ _
  | .bipush k => hP _ _ _ _
  | .sipush k => hP _ _ _ _
  | .lconst k => hP _ _ _ _
  | .iadd => dm_2_d (fun _ _ _ => hP _ _ _ _)
  | .isub => dm_2_d (fun _ _ _ => hP _ _ _ _)
  | .imul => dm_2_d (fun _ _ _ => hP _ _ _ _)
  | .i2l => dm_1_d (fun _ _ => hP _ _ _ _)
  | .ladd => dm_22_d (fun _ _ _ => hP _ _ _ _)
  | .lmul => dm_22_d (fun _ _ _ => hP _ _ _ _)
  | .dup => show Decidable (dm_v1 st (fun v l => P (pc + 1) ls (v :: v :: l) σ)) from dm_v1_d (fun _ _ => hP _ _ _ _)
  | .ldc k => dm_so_d (fun _ => hP _ _ _ _)
  | .ldc2_w k => dm_so_d (fun _ => hP _ _ _ _)
  | .getstatic k => dm_so_d (fun _ => hP _ _ _ _)
  | _ => Classical.propDecidable _
noncomputable def dm_FM_d (hP : ∀ pc ls st σ, Decidable (P pc ls st σ)) (pc : Nat) (ls : dm_L) (st : List dm_V) (σ : μ) (i : Instr) : Decidable (dm_FM E O M P pc ls st σ i) := match i with
  | .getfield k => dm_r_d (fun _ _ _ => dm_so_d (fun _ => dm_so_d (fun _ => hP _ _ _ _)))
  | .putfield k => dm_v_d (fun _ _ => dm_r_d (fun _ _ _ => dm_so_d (fun _ => dm_so_d (fun _ => hP _ _ _ _))))
  | .arraylength => dm_r_d (fun _ _ _ => dm_so_d (fun _ => hP _ _ _ _))
  | .iaload => dm_ir_d (fun x t i l => dm_so_d (fun q => match q with
    | (.int, n, .inl f) => dm_ix_d (hP _ _ _ _)
    | _ => Classical.propDecidable _))
  | .lastore => match st with
    | .inr (.inl z) :: l => dm_ir_d (fun x t i l => dm_so_d (fun q => match q with
      | (.long, n, .inr (.inl _)) => dm_ix_d (dm_so_d (fun _ => hP _ _ _ _))
      | _ => Classical.propDecidable _))
    | .inr (.inr _) :: _ => instDecidableFalse
    | .inl _ :: _ => instDecidableFalse
    | [] => instDecidableFalse
  | .aastore => dm_r_d (fun t' i' l => dm_ir_d (fun x t i l => dm_so_d (fun q => match q with
    | (.object _, n, .inr (.inr _)) => dm_ix_d (dm_so_d (fun _ => hP _ _ _ _))
    | _ => Classical.propDecidable _)))
  | .new k => dm_so_d (fun _ => dm_so_d (fun _ => hP _ _ _ _))
  | .newarray ty => dm_1_d (fun _ _ => dm_is_d (dm_so_d (fun _ => hP _ _ _ _)))
  | .anewarray k => dm_1_d (fun _ _ => dm_is_d (dm_so_d (fun _ => dm_so_d (fun _ => hP _ _ _ _))))
  | _ => Classical.propDecidable _
noncomputable def dm_inv_d (hc : ∀ y a σ Q, (∀ r σ, Decidable (Q r σ)) → Decidable (call y a σ Q)) (hP : ∀ pc ls st σ, Decidable (P pc ls st σ)) (pc : Nat) (ls : dm_L) (st : List dm_V) (σ : μ) (k : Nat) : Decidable (dm_inv E O call bi M P pc ls st σ k) := dm_so_d (fun q => match q with
  | (3000, _, _, _) => dm_is_d (dm_r_d (fun _ _ _ => dm_is_d (hP _ _ _ _)))
  | (3001, _, _, _) => dm_is_d (dm_2_d (fun _ _ _ => dm_is_d (hP _ _ _ _)))
  | (3002, _, _, _) => dm_is_d (dm_2_d (fun _ _ _ => dm_is_d (hP _ _ _ _)))
  | (3003, _, _, _) => dm_is_d (dm_r_d (fun _ _ _ => dm_is_d (dm_is_d (hP _ _ _ _))))
  | (3004, _, _, _) => dm_is_d (dm_ir_d (fun _ _ _ _ => dm_is_d (dm_is_d (dm_ix_d (hP _ _ _ _)))))
  | (y, n, rk, c) => by
    split
    · exact dm_is_d (dm_r_d (fun _ _ _ => dm_is_d (hP _ _ _ _)))
    · exact dm_is_d (dm_2_d (fun _ _ _ => dm_is_d (hP _ _ _ _)))
    · exact dm_is_d (dm_2_d (fun _ _ _ => dm_is_d (hP _ _ _ _)))
    · exact dm_is_d (dm_r_d (fun _ _ _ => dm_is_d (dm_is_d (hP _ _ _ _))))
    · exact dm_is_d (dm_ir_d (fun _ _ _ _ => dm_is_d (dm_is_d (dm_ix_d (hP _ _ _ _)))))
    · exact dm_is_d (dm_is_d (dm_is_d (dm_is_d (dm_rc_d (hc _ _ _ _ (fun _ _ => dm_rt_d (fun _ => hP _ _ _ _))))))))
noncomputable def dm_FC_d (hc : ∀ y a σ Q, (∀ r σ, Decidable (Q r σ)) → Decidable (call y a σ Q)) (hQ : ∀ r σ, Decidable (Q r σ)) (hP : ∀ pc ls st σ, Decidable (P pc ls st σ)) (pc : Nat) (ls : dm_L) (st : List dm_V) (σ : μ) (i : Instr) : Decidable (dm_FC E O call bi M Q P pc ls st σ i) := match i with
  | .if_icmp c off => dm_2_d (fun _ _ _ => dm_cmp_d (dm_tg_d (fun _ => hP _ _ _ _)) (hP _ _ _ _))
  | .goto off => dm_tg_d (fun _ => hP _ _ _ _)
  | .lreturn => by
    unfold dm_FC
    exact (match st, M.2.2.1 with
      | [.inr (.inl v)], some .long => hQ _ _
      | _, _ => Classical.propDecidable _)
  | .return_ => by
    unfold dm_FC
    exact (match st, M.2.2.1 with
      | [], none => hQ _ _
      | _, _ => Classical.propDecidable _)
  | .invokevirtual k => dm_inv_d hc hP pc ls st σ k
  | .invokespecial k => dm_inv_d hc hP pc ls st σ k
  | .invokestatic k => dm_inv_d hc hP pc ls st σ k
  | _ => Classical.propDecidable _
noncomputable def dm_F_d (hc : ∀ y a σ Q, (∀ r σ, Decidable (Q r σ)) → Decidable (call y a σ Q)) (hQ : ∀ r σ, Decidable (Q r σ)) (hP : ∀ pc ls st σ, Decidable (P pc ls st σ)) (pc : Nat) (ls : dm_L) (st : List dm_V) (σ : μ) : Decidable (dm_F E O call bi M Q P pc ls st σ) := dm_so_d (fun i => by
  unfold dm_FI
  exact (match dm_cls i with
    | 0 => dm_FA_d hP pc ls st σ i
    | 1 => dm_FM_d hP pc ls st σ i
    | _ + 2 => dm_FC_d hc hQ hP pc ls st σ i))
noncomputable def dm_it_d (hc : ∀ y a σ Q, (∀ r σ, Decidable (Q r σ)) → Decidable (call y a σ Q)) (hQ : ∀ r σ, Decidable (Q r σ)) : ∀ (k pc : Nat) (ls : dm_L) (st : List dm_V) (σ : μ), Decidable (dm_it E O call bi M Q k pc ls st σ)
  | 0, _, _, _, _ => instDecidableFalse
  | k + 1, pc, ls, st, σ => dm_F_d hc hQ (dm_it_d hc hQ k) pc ls st σ
end EVD
/-- a call, run to its end -/
def dm_run {μ : Type} (E : dm_E) (O : dm_O μ) (prog : Nat → dm_M) (K : Nat) : Nat → Nat → List dm_V → μ → (Option dm_V → μ → Prop) → Prop
  | 0 => fun y args σ Q => dm_it E O (fun _ _ _ _ => False) false (prog y) Q K 0 (dm_ent (prog y).2.1 args) [] σ
  | d + 1 => fun y args σ Q => dm_it E O (dm_run E O prog K d) (Nat.ble 4 (d + 1)) (prog y) Q K 0 (dm_ent (prog y).2.1 args) [] σ
noncomputable def dm_run_d {μ : Type} {E : dm_E} {O : dm_O μ} {prog : Nat → dm_M} {K : Nat} : ∀ (d y : Nat) (args : List dm_V) (σ : μ) (Q : Option dm_V → μ → Prop), (∀ r σ, Decidable (Q r σ)) → Decidable (dm_run E O prog K d y args σ Q)
  | 0, y, args, σ, Q, hQ => dm_it_d (fun _ _ _ _ _ => instDecidableFalse) hQ K 0 _ [] σ
  | d + 1, y, args, σ, Q, hQ => dm_it_d (fun y a σ Q h => dm_run_d d y a σ Q h) hQ K 0 _ [] σ
theorem dm_run.call {μ : Type} {E : dm_E} {O : dm_O μ} {prog : Nat → dm_M} {K : Nat} : ∀ (d y : Nat) (args : List dm_V) (σ : μ) (Q : Option dm_V → μ → Prop), dm_run E O prog K d y args σ Q → dm_Call E O prog d y args σ Q
  | 0, y, args, σ, Q, h => dm_it.go dm_cm_F (fun _ _ _ _ q => q) K _ _ _ _ h
  | d + 1, y, args, σ, Q, h => dm_it.go (dm_Call.mono d) (fun y a σ Q q => dm_run.call d y a σ Q q) K _ _ _ _ h
