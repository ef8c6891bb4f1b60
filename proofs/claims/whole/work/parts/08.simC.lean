/-! the machine follows the abstract one: where it goes on, ends, calls -/
section SIMC
variable {p : Program} {l : Launch} {e : Env} {R : Room} {s : State} {m : MethodId} {args : Array Value} {below : List Frame} {meth : Method} {c : Code} {Qw : State → Prop} {μ : Type} {E : dm_E} {O : dm_O μ} {M : dm_M} {ad : Nat → Nat → Nat} {ok : dm_V → Prop} {nL : Nat} {cc : ByteArray}
variable {D : va_G} {dA : FieldType → ClassId} {cl : List vw_C} {B : Nat} {tl : μ → List (dm_R × dm_C)} {sz : μ → Nat → Prop} {okM : μ → Prop} {cnt lim : μ → Nat × Nat} {c0 : Nat × Nat} {mc ms : Nat} {Ts : List Cond} {own : String} {St : State → Heap → Prop} {Q : Option dm_V → μ → Prop}
/-- a state of the machine that holds the abstract memory -/
def dm_U (D : va_G) (dA : FieldType → ClassId) (cl : List vw_C) (ad : Nat → Nat → Nat) (B : Nat) (tl : μ → List (dm_R × dm_C)) (sz : μ → Nat → Prop) (okM : μ → Prop) (St : State → Heap → Prop) (σ : μ) (U : State) : Prop :=
  va_P D cl (dm_wd ad dA (tl σ)) U.heap ∧ va_D (fun q => B ≤ q) (dm_wd ad dA (tl σ)) ∧ va_K D cl (dm_tys dA) U ∧ sz σ U.heap.size ∧ okM σ ∧ B ≤ U.heap.size ∧ St U U.heap
def dm_Qc (D : va_G) (dA : FieldType → ClassId) (cl : List vw_C) (ad : Nat → Nat → Nat) (ok : dm_V → Prop) (B : Nat) (tl : μ → List (dm_R × dm_C)) (sz : μ → Nat → Prop) (okM : μ → Prop) (St : State → Heap → Prop) (Q : Option dm_V → μ → Prop) : Array Value → State → Outcome → State → Prop := fun _ st o t =>
  (∃ (r : Option dm_V) (σ : μ), o = .returned (r.map (dm_cv ad)) ∧ Q r σ ∧ (∀ v, r = some v → ok v) ∧ dm_U D dA cl ad B tl sz okM St σ t) ∧ va_F (fun q => B ≤ q) st t
/-- what is always there stays there -/
def dm_hSt (B : Nat) (St : State → Heap → Prop) : Prop := (∀ (u U : State) (H : Heap), u.WarmedH U.vm → St u H → St U H) ∧ ∀ (U : State) (H H1 : Heap), (∀ a : Nat, a < H.size → ¬ B ≤ a → H1[a]? = H[a]?) → St U H → St U H1
theorem dm_Am.end {σ : μ} {H : Heap} {locs : List Loc} {cells slots : Nat} {lm : Nat × Nat} (hA : dm_Am D dA cl ad B tl sz okM cnt lim c0 lm s σ H locs cells slots) (hK : va_K D cl (dm_tys dA) s) (hBs : B ≤ s.heap.size) (hSt : dm_hSt B St) (hs : St s s.heap) {t : State} (ht : t.heap = H) (hW : s.WarmedH t.vm) : dm_U D dA cl ad B tl sz okM St σ t := by
  obtain ⟨a1, a2, a3, a4, a5, -⟩ := hA
  refine ⟨by rw [ht]; exact a1, a2, va_K.moved hW.alike hK, by rw [ht]; exact a4, a5, by rw [ht]; exact Nat.le_trans hBs a3.1, ?_⟩
  rw [ht]
  exact hSt.2 _ _ _ (fun q h1 h2 => a3.2.1 q h1 h2) (hSt.1 _ _ _ hW hs)
theorem dm_zret {H : Heap} {locs : List Loc} {cells slots : Nat} {Qc : Array Value → State → Outcome → State → Prop} {free : Addr → Prop} {v : Int32} (hexec : p.tables.exec = Jvm.exec) (hb : c.code = cc) (hr : meth.sig.returnType = some .boolean)
    (hq : ∀ t : State, t.heap = H → s.WarmedH t.vm → Qc args s (.returned (some (.int (v &&& 1)))) t) (hf : ∀ q ∈ locs, free q.base) (hlocks : meth.locks = false)
    {pc : Nat} {ls : Array Slot} (hdg : decode cc pc = .ok (.ireturn, 1)) : W p l e R s m args below meth c H locs cells slots (MQ below Qc args s cells slots free) (F0 m pc ls [.int v]) := by
  intro T hT X
  obtain ⟨fs, hret, hrun, hended, hW, hframe⟩ := X.leave (v := some (.int (v &&& 1))) (fun h => by rw [hr] at h; cases h)
  have hmeth' : T.vm.method? m = some meth := X.method'
  refine ⟨T.setFrames fs, ?_, .returned (some (.int (v &&& 1))), hrun, hended, hq _ hT hW, locs, ⟨⟨_, rfl⟩, hW, hframe⟩, hf⟩
  jvm_step X.here [X.here.top, hexec, hb, hdg, hmeth', hr, narrow]
  (try refine ⟨rfl, ?_⟩); (try refine ⟨rfl, ?_⟩)
  first | (intro acts; rw [hret _ acts rfl rfl rfl]) | rw [hret _ _ rfl rfl rfl]
  exact Steps.refl _
theorem dm_simSw (hx : p.tables.exec = Jvm.exec) (hb : c.code = cc) {H : Heap} {locs : List Loc} {cells slots pc : Nat} {lsC : Array Slot} {rest : List Value} {d lo hi : Int} {offs : Array Int} {x : Int32} {K : Nat → Prop} {len : Nat} (hd : decode cc pc = .ok (.tableswitch d lo hi offs, len)) (hlo : -2147483648 ≤ lo) (hhi : hi ≤ 2147483647) (hsz : (offs.size : Int) = hi - lo + 1)
    (hk : ∀ n, K n → W p l e R s m args below meth c H locs cells slots Qw (F0 m n lsC rest)) (h : dm_sw pc x d K lo offs.toList) : W p l e R s m args below meth c H locs cells slots Qw (F0 m pc lsC (.int x :: rest)) := by
  have key : ∀ (l : List Int) (lo' : Int), dm_sw pc x d K lo' l → -2147483648 ≤ lo' → lo' + l.length ≤ 2147483648 → (x.toInt < lo' ∨ lo' + l.length ≤ x.toInt → dm_tg pc d K) ∧ (lo' ≤ x.toInt → ∀ off, l[(x.toInt - lo').toNat]? = some off → dm_tg pc off K) := by
    intro l
    induction l with
    | nil => exact fun lo' h _ _ => ⟨fun _ => h, fun _ off ho => by simp at ho⟩
    | cons o l ih =>
      intro lo' h h1 h2
      have h2' : lo' + (l.length + 1) ≤ 2147483648 := by simpa using h2
      have h : (if x = Int32.ofInt lo' then dm_tg pc o K else dm_sw pc x d K (lo' + 1) l) := h
      have hlo' : (Int32.ofInt lo').toInt = lo' := Int32.toInt_ofInt_of_le (by omega) (by omega)
      by_cases e : x = Int32.ofInt lo'
      · rw [if_pos e] at h
        have ex : x.toInt = lo' := by rw [e, hlo']
        refine ⟨fun z => ?_, fun _ off ho => ?_⟩
        · have : ((o :: l).length : Int) = l.length + 1 := by simp
          omega
        · rw [ex, Int.sub_self] at ho
          simp at ho
          rw [← ho]; exact h
      · rw [if_neg e] at h
        have ex : x.toInt ≠ lo' := fun q => e (Int32.toInt_inj.mp (by rw [hlo']; exact q))
        obtain ⟨g1, g2⟩ := ih (lo' + 1) h (by omega) (by omega)
        have hlen : ((o :: l).length : Int) = l.length + 1 := by simp
        refine ⟨fun z => g1 (by omega), fun z off ho => g2 (by omega) off ?_⟩
        rw [show (x.toInt - lo').toNat = (x.toInt - (lo' + 1)).toNat + 1 by omega] at ho
        simpa using ho
  have hlen : (offs.toList.length : Int) = hi - lo + 1 := by simpa using hsz
  obtain ⟨g1, g2⟩ := key offs.toList lo h hlo (by omega)
  by_cases hin : x.toInt < lo ∨ hi < x.toInt
  · obtain ⟨n, ht, hn⟩ := dm_tg_i (g1 (by omega))
    exact lv_tableOut hx hb hd hin ht (hk n hn)
  · have h1 : ¬ x.toInt < lo := fun q => hin (Or.inl q)
    have h2 : ¬ hi < x.toInt := fun q => hin (Or.inr q)
    have hlt : (x.toInt - lo).toNat < offs.size := by omega
    have ho : offs[(x.toInt - lo).toNat]? = some offs[(x.toInt - lo).toNat] := Array.getElem?_eq_getElem hlt
    obtain ⟨n, ht, hn⟩ := dm_tg_i (g2 (by omega) _ (by rw [Array.getElem?_toList]; exact ho))
    exact lv_tableIn hx hb hd h1 h2 ho ht (hk n hn)
end SIMC
