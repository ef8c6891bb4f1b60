/-! THE SIMULATION: what the abstract machine does in a call is a contract of the method -/
section SIM
variable {μ : Type} (E : dm_E) (O : dm_O μ) (prog : Nat → dm_M) (mn : Nat → MethodName) (mb : Nat → ByteArray) (tb : List Cond) (mcT : Nat → Nat × Nat)
variable (D : va_G) (dA : FieldType → ClassId) (cl : List vw_C) (ad : Nat → Nat → Nat) (ok : dm_V → Prop) (B : Nat) (tl : μ → List (dm_R × dm_C)) (sz : μ → Nat → Prop) (okM : μ → Prop) (cnt lim : μ → Nat × Nat) (St : State → Heap → Prop)
def dm_ws (y : Nat) : List Cond := Cond.code (mn y) (mb y) (prog y).2.1 (prog y).2.2.1 :: tb
def dm_rm (d y : Nat) : Room := { frames := d, cells := (mcT y).1, slots := (mcT y).2, locals := 40 * d }
/-- a method that may be called -/
def dm_callee (y n : Nat) : Prop := Cond.code (mn y) (mb y) (prog y).2.1 (prog y).2.2.1 ∈ tb ∧ Cond.initialized (mn y).cls ∈ tb ∧ ((mn y).cls ≠ "java/lang/invoke/MethodHandle" ∧ (mn y).cls ≠ "java/lang/invoke/VarHandle" ∧ (parseMethodDescriptor (mn y).desc).map (fun d => d.parameters.length) = some n) ∧ (prog y).2.1 ≤ 21 ∧ n + 1 ≤ (prog y).2.1 + 1
/-- a call's link, by its kind -/
def dm_link (St : State → Heap → Prop) (own : String) (i : Instr) (k y n c : Nat) : Prop :=
  (i = .invokevirtual k ∧ ∃ n', n = n' + 1 ∧ n ≤ (prog y).2.1 ∧ dm_callee prog mn mb tb y n' ∧ c ≠ 99 ∧ (mn y).cls = dm_cn c ∧ (∃ T N, cl[c]? = some ((mn y).cls, T, N)) ∧ Cond.methodLink own k (mn y) ∈ tb ∧ Cond.instanceMethod (mn y) ∈ tb ∧ Cond.selects (mn y).cls (mn y) (mn y) ∈ tb) ∨
  (i = .invokestatic k ∧ n ≤ (prog y).2.1 ∧ dm_callee prog mn mb tb y n ∧ Cond.methodLink own k (mn y) ∈ tb ∧ Cond.static (mn y) ∈ tb) ∨
  (i = .invokespecial k ∧ ∃ n', n = n' + 1 ∧ n ≤ (prog y).2.1 ∧ dm_callee prog mn mb tb y n' ∧ c ≠ 99 ∧ (mn y).name = "<init>" ∧ (prog y).2.2.1 = none ∧ Cond.instanceMethod (mn y) ∈ tb ∧ (Cond.methodLink own k (mn y) ∈ tb ∨ ∃ host, ∀ s : State, St s s.heap → va_Nw (.methodLinkNest own k (mn y) host) s))
/-- a branch goes to a place -/
def dm_tgo (pc : Nat) : Instr → Prop
  | .if_icmp _ off => 0 ≤ (pc : Int) + off
  | .ifCond _ off => 0 ≤ (pc : Int) + off
  | _ => True
/-- a method as its tables have it -/
def dm_MOK (y : Nat) : Prop :=
  plainName (mn y).cls = true ∧ (∀ pc i, (prog y).2.2.2 pc = some i → decode (mb y) pc = .ok (i, dm_len pc i)) ∧
  (∀ k ci kk, E.1 (prog y).1 k = some (ci, kk) → ∃ (C : String) (T : u_T) (N : Nat), cl[ci]? = some (C, T, N) ∧ kk < N ∧ Cond.fieldLink (mn y).cls k (T kk).1 (T kk).2.1 (T kk).2.2.1 ∈ tb ∧ (∀ w ∈ u_ws C T N, w ∈ tb) ∧ ∃ ty0 : Nat → FieldType, (∀ k, k < N → parseFieldDescriptor (T k).2.2.1 = some (ty0 k)) ∧ ∀ a, a < N → ∀ b, b < N → a ≠ b → (T a).2.1 ≠ (T b).2.1) ∧
  (∀ pc k ci kk C T N, (prog y).2.2.2 pc = some (.putfield k) → E.1 (prog y).1 k = some (ci, kk) → cl[ci]? = some (C, T, N) → (T kk).2.2.2 = true → (mn y).name = "<init>" ∧ (T kk).1 = (mn y).cls) ∧
  (∀ pc i, (prog y).2.2.2 pc = some i → dm_tgo pc i) ∧
  (∀ pc d lo hi offs, (prog y).2.2.2 pc = some (.tableswitch d lo hi offs) → -2147483648 ≤ lo ∧ hi ≤ 2147483647 ∧ (offs.size : Int) = hi - lo + 1) ∧
  (∀ pc i k, (prog y).2.2.2 pc = some i → (i = .invokevirtual k ∨ i = .invokestatic k ∨ i = .invokespecial k) → ∀ q, E.2.1 (prog y).1 k = some q → 3000 ≤ q.1 ∨ dm_link prog mn mb tb cl St (mn y).cls i k q.1 q.2.1 q.2.2.2)
/-- a context of a method's walk -/
def dm_ctx (y : Nat) (p : Program) (s : State) (m : MethodId) (args : Array Value) (c : Code) : Prop := p.tables.exec = Jvm.exec ∧ c.code = mb y ∧ c.maxLocals = (prog y).2.1 ∧ s.vm.findClass (mn y).cls = some m.cls ∧ (∀ w ∈ tb, w.before args s = true) ∧ va_K D cl (dm_tys dA) s ∧ St s s.heap ∧ B ≤ s.heap.size
/-- constants, statics, the JDK's methods, new cells: said of each walk -/
def dm_XOK (y : Nat) : Prop := ∀ (p : Program) (l : Launch) (e : Env) (R : Room) (s : State) (m : MethodId) (args : Array Value) (below : List Frame) (meth : Method) (c : Code) (Qw : State → Prop) (c0 : Nat × Nat), dm_ctx prog mn mb tb D dA cl B St y p s m args c →
  dm_hcs p l e R s m args below meth c Qw ad ok (mb y) E (prog y) ∧
  dm_hst p l e R s m args below meth c Qw ad ok (mb y) E (prog y) (dm_Am D dA cl ad B tl sz okM cnt lim c0 (c0.1 + R.cells, c0.2 + R.slots) s) ∧
  dm_harr O ok ad B tl okM s ∧
  (∀ (call : Nat → List dm_V → μ → (Option dm_V → μ → Prop) → Prop) (bi : Bool) (pc : Nat) (ls : dm_L) (st : List dm_V) (σ : μ) (i : Instr) (k : Nat) (q : Nat × Nat × Nat × Nat), (bi = true → 4 ≤ R.frames ∧ 160 ≤ R.locals) → (∀ σ H locs cells slots, dm_Am D dA cl ad B tl sz okM cnt lim c0 (c0.1 + R.cells, c0.2 + R.slots) s σ H locs cells slots → cells ≤ R.cells ∧ slots ≤ R.slots) → (prog y).2.2.2 pc = some i → (i = .invokevirtual k ∨ i = .invokestatic k ∨ i = .invokespecial k) → E.2.1 (prog y).1 k = some q → 3000 ≤ q.1 →
    dm_inv E O call bi (prog y) (dm_P p l e R s m args below meth c Qw ad ok (prog y).2.1 (dm_Am D dA cl ad B tl sz okM cnt lim c0 (c0.1 + R.cells, c0.2 + R.slots) s)) pc ls st σ k → dm_P p l e R s m args below meth c Qw ad ok (prog y).2.1 (dm_Am D dA cl ad B tl sz okM cnt lim c0 (c0.1 + R.cells, c0.2 + R.slots) s) pc ls st σ) ∧
  (∀ (pc : Nat) (ls : dm_L) (st : List dm_V) (σ : μ) (i : Instr), (prog y).2.2.2 pc = some i → ((∃ k, i = .new k) ∨ (∃ k, i = .newarray k) ∨ ∃ k, i = .anewarray k) →
    dm_FM E O (prog y) (dm_P p l e R s m args below meth c Qw ad ok (prog y).2.1 (dm_Am D dA cl ad B tl sz okM cnt lim c0 (c0.1 + R.cells, c0.2 + R.slots) s)) pc ls st σ i → dm_P p l e R s m args below meth c Qw ad ok (prog y).2.1 (dm_Am D dA cl ad B tl sz okM cnt lim c0 (c0.1 + R.cells, c0.2 + R.slots) s) pc ls st σ)
/-- a memory and its operations -/
def dm_IF : Prop := (∀ x, ok (vi x)) ∧ (∀ x, ok (vl x)) ∧ dm_hget O ok tl okM ∧ dm_hput O ok cl ad tl sz okM cnt lim ∧ dm_hsta O ok cl tl sz okM cnt lim ∧ dm_hSt B St ∧ (∀ σ, okM σ → (cnt σ).1 ≤ (lim σ).1 ∧ (cnt σ).2 ≤ (lim σ).2) ∧
  (∀ σ y, okM σ → O.2.2.2.2.2.2.1 σ y = true → okM (O.2.2.2.2.2.2.2.1 σ y) ∧ tl (O.2.2.2.2.2.2.2.1 σ y) = tl σ ∧ (∀ n, sz σ n → sz (O.2.2.2.2.2.2.2.1 σ y) n) ∧ cnt (O.2.2.2.2.2.2.2.1 σ y) = cnt σ ∧ lim (O.2.2.2.2.2.2.2.1 σ y) = ((cnt σ).1 + (mcT y).1, (cnt σ).2 + (mcT y).2) ∧ (cnt σ).1 + (mcT y).1 ≤ (lim σ).1 ∧ (cnt σ).2 + (mcT y).2 ≤ (lim σ).2) ∧
  (∀ σ σ' y, okM σ → okM σ' → O.2.2.2.2.2.2.1 σ y = true → okM (O.2.2.2.2.2.2.2.2 σ σ' y) ∧ tl (O.2.2.2.2.2.2.2.2 σ σ' y) = tl σ' ∧ (∀ n, sz σ' n → sz (O.2.2.2.2.2.2.2.2 σ σ' y) n) ∧ cnt (O.2.2.2.2.2.2.2.2 σ σ' y) = ((cnt σ).1 + (mcT y).1, (cnt σ).2 + (mcT y).2) ∧ lim (O.2.2.2.2.2.2.2.2 σ σ' y) = lim σ)
end SIM
