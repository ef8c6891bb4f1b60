/-! THE START: what the Statement gives of it, as what is always there -/
def stK : List (String × Nat) := [("MistakesLent$Reader", 36), ("MistakesLent$Reader", 41), ("MistakesLent$Reader", 43), ("MistakesLent$Reader", 45), ("MistakesLent$Reader", 47), ("MistakesLent$Reader", 49), ("MistakesLent$Reader", 51), ("MistakesLent$Reader", 53), ("MistakesLent$Reader", 55), ("MistakesLent$Reader", 57), ("MistakesLent$Reader", 178), ("MistakesLent$Reader", 188), ("MistakesLent$Reader", 192), ("MistakesLent$Reader", 196), ("MistakesLent$Reader", 213), ("MistakesLent$Reader", 218), ("MistakesLent$Reader", 231), ("MistakesLent$Reader", 250), ("MistakesLent$Reader", 252), ("MistakesLent$Reader", 283), ("MistakesLent$Reader", 285), ("MistakesLent$Reader", 287), ("MistakesLent$Reader", 289), ("MistakesLent$Reader", 291), ("MistakesLent$Reader", 279), ("MistakesLent$Reader", 293), ("MistakesLent$Reader", 295), ("MistakesLent$Reader", 308), ("MistakesLent", 348)]
def stE : List (Nat × Nat × Nat) := [(310, 0, 131), (320, 10, 228), (331, 11, 234), (340, 12, 236), (350, 13, 238), (360, 1, 133), (369, 2, 135), (378, 3, 137), (387, 4, 139), (396, 5, 141), (407, 6, 143), (416, 7, 145), (425, 8, 147), (432, 9, 149), (442, 15, 244), (451, 14, 246), (461, 16, 254), (470, 17, 256), (480, 18, 258), (489, 19, 264), (499, 20, 266), (510, 21, 268), (520, 22, 270), (528, 23, 272), (538, 24, 277), (548, 25, 279), (558, 26, 281), (567, 27, 283)]
def nrw : List Cond := flatC (Jvm.Cond.and given_1 narrow_1)
def stT (j : Nat) : Term := .string (stK.getD j ("", 0)).1 (stK.getD j ("", 0)).2
def stV (j : Nat) : Term := .field (stT j) "java/lang/String" "value" "[B"
def stN (j : Nat) : Nat := dm_lens.getD j 0
/-- the words of a String -/
def stW (j : Nat) : List Cond := [.exactly (stT j) "java/lang/String", .eq (.field (stT j) "java/lang/String" "coder" "B") (.int 0), .arrayOf (stV j) .byte, .eq (.length (stV j)) (.int (Int32.ofNat (stN j)))] ++ (List.range (stN j)).map (fun k => .eq (.elem (stV j) (.int (Int32.ofNat k))) (.int ((dm_strl.getD j []).getD k 0)))
theorem st_seg : (nrw.drop 37).take 263 = (List.range 29).flatMap stW := by decide +kernel
theorem st_eqs : ∀ e ∈ stE, nrw[e.1]? = some (.eq (stT e.2.1) (.string "MistakesLentModel" e.2.2)) := by decide +kernel
theorem st_W {j : Nat} (hj : j < 29) {w : Cond} (hw : w ∈ stW j) : w ∈ nrw := by
  have h : w ∈ (nrw.drop 37).take 263 := by
    rw [st_seg]
    exact List.mem_flatMap.mpr ⟨j, List.mem_range.mpr hj, hw⟩
  exact List.mem_of_mem_drop (List.mem_of_mem_take h)
abbrev stR : Term := .static "MistakesLent" "ROOM" "[I"
theorem st_room : Cond.arrayOf stR .int ∈ nrw ∧ Cond.eq (.length stR) (.int (Int32.ofNat 9)) ∈ nrw ∧ ∀ j, j < 9 → Cond.eq (.elem stR (.int (Int32.ofNat j))) (.int (m2_room.getD j 0)) ∈ nrw := by decide +kernel
theorem st_stat : Cond.eq (.static "java/lang/String" "COMPACT_STRINGS" "Z") (.int 1) ∈ nrw ∧ Cond.isRef (.static "jdk/internal/util/Preconditions" "SIOOBE_FORMATTER" "Ljava/util/function/BiFunction;") ∈ nrw ∧ Cond.isRef (.static "java/lang/Throwable" "UNASSIGNED_STACK" "[Ljava/lang/StackTraceElement;") ∈ nrw ∧ Cond.isRef (.static "java/lang/Throwable" "SUPPRESSED_SENTINEL" "Ljava/util/List;") ∈ nrw := by decide +kernel
theorem st_lay : Cond.laysStatic "MistakesLent" "ROOM" "[I" ∈ lw_tbl ∧ Cond.laysStatic "java/lang/String" "COMPACT_STRINGS" "Z" ∈ lw_tbl ∧ Cond.laysStatic "jdk/internal/util/Preconditions" "SIOOBE_FORMATTER" "Ljava/util/function/BiFunction;" ∈ lw_tbl ∧ Cond.laysStatic "java/lang/Throwable" "UNASSIGNED_STACK" "[Ljava/lang/StackTraceElement;" ∈ lw_tbl ∧ Cond.laysStatic "java/lang/Throwable" "SUPPRESSED_SENTINEL" "Ljava/util/List;" ∈ lw_tbl := by decide +kernel
theorem st_ini : Cond.initialized "MistakesLent" ∈ lw_tbl ∧ Cond.initialized "java/lang/String" ∈ lw_tbl ∧ Cond.initialized "jdk/internal/util/Preconditions" ∈ lw_tbl ∧ Cond.initialized "java/lang/Throwable" ∈ lw_tbl := by decide +kernel
theorem st_sl : ∀ c, c < 16 → ∀ e ∈ dm_sl c, e.2.2 = true → Cond.fieldLinkNest (dm_cn c) e.1 "MistakesLent" "ROOM" "[I" "MistakesLent" ∈ lw_tbl := by decide +kernel
def st_j (v : dm_V) (j : Nat) : Bool := match v with
  | .inr (.inr (some (t, k))) => Nat.beq t 90 && Nat.beq k j
  | _ => false
def st_ck (c : Nat) (e : Nat × dm_V × Nat) : Bool := (List.range 29).all (fun j => !(st_j e.2.1 j) || (decide (Cond.stringRef (dm_cn c) e.1 (dm_txt.getD j "") ∈ lw_tbl) && (decide ((dm_cn c, e.1) = stK.getD j ("", 0)) || (decide (dm_cn c = "MistakesLentModel") && stE.any (fun q => decide (q.2 = (j, e.1)))))))
theorem st_ckk : ∀ c, c < 16 → ∀ e ∈ dm_cl c, st_ck c e = true := by decide +kernel
theorem st_cl {c : Nat} (hc : c < 16) {e : Nat × dm_V × Nat} (he : e ∈ dm_cl c) {j : Nat} (hj : j < 29) (h : st_j e.2.1 j = true) : Cond.stringRef (dm_cn c) e.1 (dm_txt.getD j "") ∈ lw_tbl ∧ ((dm_cn c, e.1) = stK.getD j ("", 0) ∨ (dm_cn c = "MistakesLentModel" ∧ ∃ q ∈ stE, q.2 = (j, e.1))) := by
  have h1 := List.all_eq_true.mp (st_ckk c hc e he) j (List.mem_range.mpr hj)
  rw [h] at h1
  simp only [Bool.not_true, Bool.false_or, Bool.and_eq_true, decide_eq_true_eq, Bool.or_eq_true, List.any_eq_true] at h1
  exact h1
theorem st_clj : ∀ c, c < 16 → ∀ e ∈ dm_cl c, (match e.2.1 with
  | .inr (.inr (some (90, j))) => decide (j < 29)
  | _ => true) = true := by decide +kernel
theorem st_ao : ∀ ty ∈ dm_tyl, (match ty with
  | .object C => decide (Cond.arrayOver (.object C) ∈ lw_tbl)
  | t => decide (Cond.arrayClass t ∈ lw_tbl)) = true := by decide +kernel
theorem st_dist : ∀ i, i < 29 → ∀ j, j < 29 → i ≠ j → dm_lens.getD i 0 ≠ dm_lens.getD j 0 ∨ ∃ k, k < dm_lens.getD i 0 ∧ (dm_strl.getD i []).getD k 0 ≠ (dm_strl.getD j []).getD k 0 := by decide +kernel
theorem st_len : ∀ i, i < 29 → dm_lens.getD i 0 < 30 := by decide +kernel
section STA
variable {args : Array Value} {s : State}
theorem st_arr {t : Term} {N : Nat} {f : Nat → Int32} (hN : N < 2 ^ 31) (harr : (Cond.arrayOf t .int).before args s = true) (hlen : (Cond.eq (.length t) (.int (Int32.ofNat N))).before args s = true) (hel : ∀ j, j < N → (Cond.eq (.elem t (.int (Int32.ofNat j))) (.int (f j))).before args s = true) : ∃ a, t.eval args s none [] s = some (.ref a) ∧ va_X a N f s s.heap ∧ a < s.heap.size := by
  have hl := va_eqt hlen
  obtain ⟨a, cell, ht, hat, hv⟩ := Term.length_spec hl
  have hsz : cell.slots.size < 2 ^ 31 := by
    have hv := hl
    simp only [Term.eval, ht, hat, Option.bind_eq_bind, Option.bind_some] at hv
    by_cases hlt : cell.slots.size < 2147483648
    · exact hlt
    · simp [hlt] at hv
  obtain ⟨a', ht', cell', h1, h2, h3, h4, h5, h6, h7⟩ := va_Tof (A := fun q => s.heap.size ≤ q) (f := fun j => .int (f j)) hN harr hl (fun j hj => va_eqt (hel j hj)) (fun a ha => Nat.not_le.mpr ha)
  cases Value.ref.inj (Option.some.inj (ht.symm.trans ht'))
  obtain ⟨hcell, -, -, -⟩ := State.arrayAt?_spec hat
  cases Option.some.inj (hcell.symm.trans h1)
  refine ⟨a, ht, ⟨cell, h1, h2, h3, ?_, h6⟩, (Array.getElem?_eq_some_iff.mp h1).1⟩
  have e : Int32.toInt (Int32.ofNat cell.slots.size) = Int32.toInt (Int32.ofNat N) := congrArg Int32.toInt h5
  rw [Int32.toInt_ofNat_small hsz, Int32.toInt_ofNat_small hN] at e
  exact Int.ofNat.inj e
theorem st_S {N : Nat} {tm : Nat → Term} {len : List Nat} {byt : List (List Int32)} {A : Nat → Prop} (hN : ∀ i : Nat, i < N → len.getD i 0 < 2 ^ 31) (hex : ∀ i : Nat, i < N → (Cond.exactly (tm i) "java/lang/String").before args s = true) (hco : ∀ i : Nat, i < N → (Cond.eq (.field (tm i) "java/lang/String" "coder" "B") (.int 0)).before args s = true)
    (har : ∀ i : Nat, i < N → (Cond.arrayOf (.field (tm i) "java/lang/String" "value" "[B") .byte).before args s = true) (hle : ∀ i : Nat, i < N → (Cond.eq (.length (.field (tm i) "java/lang/String" "value" "[B")) (.int (Int32.ofNat (len.getD i 0)))).before args s = true)
    (hel : ∀ i : Nat, i < N → ∀ j : Nat, j < len.getD i 0 → (Cond.eq (.elem (.field (tm i) "java/lang/String" "value" "[B") (.int (Int32.ofNat j))) (.int ((byt.getD i []).getD j 0))).before args s = true)
    (hne : ∀ i, i < N → ∀ j, j < N → i ≠ j → len.getD i 0 ≠ len.getD j 0 ∨ ∃ k, k < len.getD i 0 ∧ (byt.getD i []).getD k 0 ≠ (byt.getD j []).getD k 0) (hA : ∀ a : Nat, a < s.heap.size → ¬ A a) :
    ∃ adK adV : Nat → Nat, vk_S N len byt adK adV A s s.heap ∧ ∀ i : Nat, i < N → (tm i).eval args s none [] s = some (.ref (adK i)) := by
  have h0 : ∀ i : Nat, ∃ q : Nat × Nat, i < N → (tm i).eval args s none [] s = some (.ref q.1) ∧ va_O "java/lang/String" q.1 A s s.heap ∧ va_OF "java/lang/String" "coder" "B" (.int 0) q.1 A s s.heap ∧ va_OF "java/lang/String" "value" "[B" (.ref q.2) q.1 A s s.heap ∧ va_T .byte q.2 (len.getD i 0) (fun j => .int ((byt.getD i []).getD j 0)) A s s.heap := by
    intro i
    by_cases hi : i < N
    · obtain ⟨a, c, cA, kA, q1, q2, q3, q4, q5, q6, -⟩ := Cond.exactly_spec (args := args) (first := s) (o := none) (s := s) (idx := []) (t := tm i) (cls := "java/lang/String") (hex i hi)
      obtain ⟨t, ht, hT⟩ := va_Tof (f := fun j => .int ((byt.getD i []).getD j 0)) (A := A) (hN i hi) (har i hi) (va_eqt (hle i hi)) (fun j hj => va_eqt (hel i hi j hj)) hA
      exact ⟨(a, t), fun _ => ⟨q1, ⟨cA, q3, q5, by rw [q6]; exact q2, hA a (Array.getElem?_eq_some_iff.mp q3).1⟩, vk_OFof q1 (va_eqt (hco i hi)) hA, vk_OFof q1 ht hA, hT⟩⟩
    · exact ⟨(0, 0), fun h => absurd h hi⟩
  obtain ⟨ad, had⟩ := Classical.axiomOfChoice h0
  refine ⟨fun i => (ad i).1, fun i => (ad i).2, ⟨fun i hi => (had i hi).2, fun i j hi hj e => ?_⟩, fun i hi => (had i hi).1⟩
  by_cases hij : i = j
  · exact hij
  exfalso
  obtain ⟨-, -, -, ⟨cf, k, fi, f, cell, o1, o2, o3, o4, o5, o6⟩, ⟨ce, t1, t2, t3, t4, t5, t6, t7⟩⟩ := had i hi
  obtain ⟨-, -, -, ⟨cf', k', fi', f', cell', o1', o2', o3', o4', o5', o6'⟩, ⟨ce', t1', t2', t3', t4', t5', t6', t7'⟩⟩ := had j hj
  have e : (ad i).1 = (ad j).1 := e
  rw [e] at o3
  cases Option.some.inj (o1.symm.trans o1')
  cases Option.some.inj (o3.symm.trans o3')
  have e2 : (ad i).2 = (ad j).2 := Value.ref.inj (Option.some.inj (o5.symm.trans o5'))
  rw [e2] at t1
  cases Option.some.inj (t1.symm.trans t1')
  have e3 : len.getD i 0 = len.getD j 0 := by
    have e : Int32.toInt (Int32.ofNat (len.getD i 0)) = Int32.toInt (Int32.ofNat (len.getD j 0)) := congrArg Int32.toInt (t5.symm.trans t5')
    rw [Int32.toInt_ofNat_small (hN i hi), Int32.toInt_ofNat_small (hN j hj)] at e
    exact Int.ofNat.inj e
  rcases hne i hi j hj hij with h | ⟨q, hq, h⟩
  · exact h e3
  · exact h (Value.int.inj (Option.some.inj ((t6 q hq).symm.trans (t6' q (by rw [← e3]; exact hq)))))
/-- the classes and the arrays' classes -/
theorem st_K (hts : ∀ w ∈ lw_tbl, w.before args s = true) : ∃ (D : va_G) (dA : FieldType → ClassId), va_K D vwCl (dm_tys dA) s := by
  have htb : ∀ w ∈ dm_tb, w.before args s = true := fun w hw => hts w (List.mem_filter.mp hw).1
  have h0 : ∀ ci : Nat, ∃ q : ClassId × (Nat → Nat), ∀ w : vw_C, vwCl[ci]? = some w → u_Kn s w.1 w.2.1 w.2.2 q.1 q.2 := by
    intro ci
    by_cases hci : ci < 14
    · obtain ⟨T, hT, hin, -⟩ := m1_clat ci hci
      have hio := dm_iok ci hci
      rw [Bool.and_eq_true] at hio
      obtain ⟨cC, iS, hK⟩ := u_known (C := dm_cn ci) (T := T) (N := m2_nf ci) (n := m2_nf ci) htb hin (htb _ (dm_at_mem hio.1))
      exact ⟨(cC, iS), fun w hw => by cases Option.some.inj (hT.symm.trans hw); exact hK⟩
    · exact ⟨(0, fun _ => 0), fun w hw => by
        have := (List.getElem?_eq_some_iff.mp hw).1
        exact absurd this (by show ¬ ci < 14; exact hci)⟩
  obtain ⟨f, hf⟩ := Classical.axiomOfChoice h0
  have h1 : ∀ ty : FieldType, ∃ cA : ClassId, ty ∈ dm_tyl → ArrOfT s cA ty ∧ va_RA s cA ty := by
    intro ty
    by_cases hty : ty ∈ dm_tyl
    · have h := st_ao ty hty
      cases ty with
      | object C =>
        obtain ⟨comp, c, k, q1, q2, q3, q4, q5⟩ := Cond.arrayOver_spec (hts _ (of_decide_eq_true h))
        exact ⟨c, fun _ => ⟨fun n z => ⟨fun k h => (by cases h), k, q3, comp, q4⟩, k, comp, q3, q4, q1, q5⟩⟩
      | _ =>
        obtain ⟨c, k, comp, q1, q2, q3⟩ := Cond.arrayClass_spec (hts _ (of_decide_eq_true h))
        exact ⟨c, fun _ => ⟨fun n z => ⟨fun k h => (by cases h), k, q2, comp, q3⟩, q1⟩⟩
    · exact ⟨0, fun h => absurd h hty⟩
  obtain ⟨dA, hdA⟩ := Classical.axiomOfChoice h1
  refine ⟨(fun c => (f c).1, fun c => (f c).2), dA, fun c q hq => hf c q hq, fun k q hq => ?_⟩
  unfold dm_tys at hq
  rw [List.getElem?_map] at hq
  cases hk : dm_tyl[k]? with
  | none => rw [hk] at hq; cases hq
  | some ty =>
    rw [hk] at hq
    cases hq
    exact hdA ty (List.mem_of_getElem? hk)
end STA
