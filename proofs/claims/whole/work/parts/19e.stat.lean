/-! what is always there: ROOM, the script, the Strings, the links inside the nest -/
def dm_X1 (a B : Nat) (n : Nat) (f : Nat → Int32) (U : State) (H : Heap) : Prop := va_X a n f U H ∧ ¬ B ≤ a
theorem dm_X1.moved {a B n : Nat} {f : Nat → Int32} {u U : State} {H : Heap} (hvm : u.vm.Alike U.vm) (h : dm_X1 a B n f u H) : dm_X1 a B n f U H := by
  obtain ⟨⟨scr, h1, h2, h3, h4, h5⟩, h6⟩ := h
  exact ⟨⟨scr, h1, State.isArrayOf_alike hvm h2, h3, h4, h5⟩, h6⟩
theorem dm_X1.kept {a B n : Nat} {f : Nat → Int32} {U : State} {H H1 : Heap} (h : dm_X1 a B n f U H) (hq : ∀ a : Nat, a < H.size → ¬ B ≤ a → H1[a]? = H[a]?) : dm_X1 a B n f U H1 := by
  obtain ⟨⟨scr, h1, h2, h3, h4, h5⟩, h6⟩ := h
  exact ⟨⟨scr, (hq a (Array.getElem?_eq_some_iff.mp h1).1 h6).trans h1, h2, h3, h4, h5⟩, h6⟩
theorem dm_X1.lt {a B n : Nat} {f : Nat → Int32} {U : State} {H : Heap} (h : dm_X1 a B n f U H) : a < H.size := by
  obtain ⟨⟨scr, h1, -⟩, -⟩ := h
  exact (Array.getElem?_eq_some_iff.mp h1).1
def dm_lens : List Nat := dm_strl.map List.length
/-- the Strings and what their methods read -/
def dm_Str (ad : Nat → Nat → Nat) (adV : Nat → Nat) (B : Nat) (U : State) (H : Heap) : Prop :=
  vk_S 29 dm_lens dm_strl (ad 90) adV (fun q => B ≤ q) U H ∧ va_Z "java/lang/String" "COMPACT_STRINGS" "Z" (.int 1) (fun q => B ≤ q) U H ∧ va_Zq "jdk/internal/util/Preconditions" "SIOOBE_FORMATTER" "Ljava/util/function/BiFunction;" (fun q => B ≤ q) U H
theorem dm_Str.moved {ad : Nat → Nat → Nat} {adV : Nat → Nat} {B : Nat} {u U : State} {H : Heap} (hvm : u.vm.Alike U.vm) (h : dm_Str ad adV B u H) : dm_Str ad adV B U H := by
  obtain ⟨h1, h2, h3⟩ := h
  refine ⟨vk_S.moved hvm h1, va_Z.moved hvm h2, ?_⟩
  rcases h3 with h3 | ⟨t, h3⟩
  · exact Or.inl (va_Z.moved hvm h3)
  · exact Or.inr ⟨t, va_Z.moved hvm h3⟩
theorem dm_Str.kept {ad : Nat → Nat → Nat} {adV : Nat → Nat} {B : Nat} {U : State} {H H1 : Heap} (h : dm_Str ad adV B U H) (hq : ∀ a : Nat, a < H.size → ¬ B ≤ a → H1[a]? = H[a]?) : dm_Str ad adV B U H1 := by
  obtain ⟨h1, h2, h3⟩ := h
  refine ⟨vk_S.kept h1 hq, va_Z.kept h2 hq, ?_⟩
  rcases h3 with h3 | ⟨t, h3⟩
  · exact Or.inl (va_Z.kept h3 hq)
  · exact Or.inr ⟨t, va_Z.kept h3 hq⟩
def dm_St (ad : Nat → Nat → Nat) (adV : Nat → Nat) (B L : Nat) (xs : Nat → Int32) (U : State) (H : Heap) : Prop :=
  dm_X1 (ad 92 0) B 9 (fun j => m2_room.getD j 0) U H ∧ dm_X1 (ad 93 0) B L xs U H ∧
  va_Z "MistakesLent" "ROOM" "[I" (.ref (ad 92 0)) (fun q => B ≤ q) U H ∧
  (∀ (c : Nat) (e : Nat × Nat × Bool), e ∈ dm_sl c → e.2.2 = true → va_Nw (.fieldLinkNest (dm_cn c) e.1 "MistakesLent" "ROOM" "[I" "MistakesLent") U) ∧
  (∀ (c : Nat) (e : Nat × dm_V × Nat) (j : Nat), e ∈ dm_cl c → e.2.1 = vr 90 j → vk_R (dm_cn c) e.1 (dm_txt.getD j "") (ad 90 j) U) ∧
  dm_Str ad adV B U H ∧ dm_nest U ∧ ∀ C : String, FieldType.object C ∈ dm_tyl → va_AO C U
theorem dm_St_ok (ad : Nat → Nat → Nat) (adV : Nat → Nat) (B L : Nat) (xs : Nat → Int32) : dm_hSt B (dm_St ad adV B L xs) := by
  refine ⟨fun u U H hW h => ?_, fun U H H1 hq h => ?_⟩
  · obtain ⟨h1, h2, h3, h4, h5, h6, h7, h8⟩ := h
    exact ⟨h1.moved hW.alike, h2.moved hW.alike, va_Z.moved hW.alike h3, fun c e he hn => va_Nw.warmF hW (h4 c e he hn), fun c e j he hj => vk_R.warm hW (h5 c e j he hj), h6.moved hW.alike, fun c e he hn => va_Nw.warmM hW (h7 c e he hn), fun C hC => va_AO.moved hW.alike (h8 C hC)⟩
  · obtain ⟨h1, h2, h3, h4, h5, h6, h7, h8⟩ := h
    exact ⟨h1.kept hq, h2.kept hq, va_Z.kept h3 hq, h4, h5, h6.kept hq, h7, h8⟩
/-! the JDK's methods on Strings -/
def nS_length : MethodName := ⟨"java/lang/String", "length", "()I"⟩
def nS_coder : MethodName := ⟨"java/lang/String", "coder", "()B"⟩
def nS_charAt : MethodName := ⟨"java/lang/String", "charAt", "(I)C"⟩
def nS_isL : MethodName := ⟨"java/lang/String", "isLatin1", "()Z"⟩
def nS_ckI : MethodName := ⟨"java/lang/String", "checkIndex", "(II)V"⟩
def nS_lchar : MethodName := ⟨"java/lang/StringLatin1", "charAt", "([BI)C"⟩
def nS_pck : MethodName := ⟨"jdk/internal/util/Preconditions", "checkIndex", "(IILjava/util/function/BiFunction;)I"⟩
theorem dm_s1 (w : Cond) (i : Nat) (h : dm_at i w = true) : w ∈ dm_tb := dm_at_mem h
theorem tS_length : Cond.code nS_length prog_23_method_54_code 1 (some .int) ∈ dm_tb := dm_s1 _ 494 (by decide +kernel)
theorem tS_coder : Cond.code nS_coder prog_23_method_152_code 1 (some .byte) ∈ dm_tb := dm_s1 _ 498 (by decide +kernel)
theorem tS_charAt : Cond.code nS_charAt prog_23_method_56_code 2 (some .char) ∈ dm_tb := dm_s1 _ 505 (by decide +kernel)
theorem tS_isL : Cond.code nS_isL prog_23_method_154_code 1 (some .boolean) ∈ dm_tb := dm_s1 _ 509 (by decide +kernel)
theorem tS_lchar : Cond.code nS_lchar prog_24_method_2_code 2 (some .char) ∈ dm_tb := dm_s1 _ 512 (by decide +kernel)
theorem tS_ckI : Cond.code nS_ckI prog_23_method_155_code 2 none ∈ dm_tb := dm_s1 _ 515 (by decide +kernel)
theorem tS_pck : Cond.code nS_pck prog_30_method_11_code 3 (some .int) ∈ dm_tb := dm_s1 _ 520 (by decide +kernel)
theorem tS_iS : Cond.initialized "java/lang/String" ∈ dm_tb := dm_s1 _ 146 (by decide +kernel)
theorem tS_iL : Cond.initialized "java/lang/StringLatin1" ∈ dm_tb := dm_s1 _ 147 (by decide +kernel)
theorem tS_iP : Cond.initialized "jdk/internal/util/Preconditions" ∈ dm_tb := dm_s1 _ 148 (by decide +kernel)
theorem tS_fv : Cond.fieldLink "java/lang/String" 9 "java/lang/String" "value" "[B" ∈ dm_tb := dm_s1 _ 2068 (by decide +kernel)
theorem tS_fc : Cond.fieldLink "java/lang/String" 15 "java/lang/String" "coder" "B" ∈ dm_tb := dm_s1 _ 2069 (by decide +kernel)
theorem tS_fC : Cond.fieldLink "java/lang/String" 38 "java/lang/String" "COMPACT_STRINGS" "Z" ∈ dm_tb := dm_s1 _ 499 (by decide +kernel)
theorem tS_fF : Cond.fieldLink "java/lang/String" 1053 "jdk/internal/util/Preconditions" "SIOOBE_FORMATTER" "Ljava/util/function/BiFunction;" ∈ dm_tb := dm_s1 _ 516 (by decide +kernel)
theorem tS_lco : Cond.methodLink "java/lang/String" 335 nS_coder ∈ dm_tb ∧ Cond.instanceMethod nS_coder ∈ dm_tb ∧ Cond.selects "java/lang/String" nS_coder nS_coder ∈ dm_tb := ⟨dm_s1 _ 495 (by decide +kernel), dm_s1 _ 496 (by decide +kernel), dm_s1 _ 497 (by decide +kernel)⟩
theorem tS_lis : Cond.methodLink "java/lang/String" 492 nS_isL ∈ dm_tb ∧ Cond.instanceMethod nS_isL ∈ dm_tb ∧ Cond.selects "java/lang/String" nS_isL nS_isL ∈ dm_tb := ⟨dm_s1 _ 506 (by decide +kernel), dm_s1 _ 507 (by decide +kernel), dm_s1 _ 508 (by decide +kernel)⟩
theorem tS_llc : Cond.methodLink "java/lang/String" 495 nS_lchar ∈ dm_tb ∧ Cond.static nS_lchar ∈ dm_tb := ⟨dm_s1 _ 510 (by decide +kernel), dm_s1 _ 511 (by decide +kernel)⟩
theorem tS_lck : Cond.methodLink "java/lang/StringLatin1" 9 nS_ckI ∈ dm_tb ∧ Cond.static nS_ckI ∈ dm_tb := ⟨dm_s1 _ 513 (by decide +kernel), dm_s1 _ 514 (by decide +kernel)⟩
theorem tS_lpc : Cond.methodLink "java/lang/String" 1059 nS_pck ∈ dm_tb ∧ Cond.static nS_pck ∈ dm_tb := ⟨dm_s1 _ 518 (by decide +kernel), dm_s1 _ 519 (by decide +kernel)⟩
theorem tS_len : Cond.instanceMethod nS_length ∈ dm_tb ∧ Cond.selects "java/lang/String" nS_length nS_length ∈ dm_tb := ⟨dm_s1 _ 492 (by decide +kernel), dm_s1 _ 493 (by decide +kernel)⟩
theorem tS_cha : Cond.instanceMethod nS_charAt ∈ dm_tb ∧ Cond.selects "java/lang/String" nS_charAt nS_charAt ∈ dm_tb := ⟨dm_s1 _ 503 (by decide +kernel), dm_s1 _ 504 (by decide +kernel)⟩
theorem dm_gi (c : Cond) (hc : c ∈ dm_tb) : GoodIn dm_tb (c :: dm_tb) := fun w hw => by
  have hm : w ∈ dm_tb := by
    rcases List.mem_cons.mp hw with e9 | e9
    · rw [e9]; exact hc
    · exact e9
  exact ⟨hm, dm_tb_good w hm⟩
/-- a method that only reads -/
def dm_Qp (r : Option Value) : Array Value → State → Outcome → State → Prop := fun _ st o t => o = .returned r ∧ t.heap = st.heap
theorem dm_blind {ad : Nat → Nat → Nat} {adV : Nat → Nat} {B : Nat} (av : List Value) : FrameBlind (va_Pc av (fun U => dm_Str ad adV B U U.heap)) := fun a U g mk q => ⟨q.1, dm_Str.moved (u := U) (U := U.calling g mk a) (Vm.Alike.refl U.vm) q.2⟩
