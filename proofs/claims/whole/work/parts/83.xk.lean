/-! M2 and the methods: constants, statics, the JDK's methods -/
section XK
variable {D : va_G} {dA : FieldType → ClassId} {ad : Nat → Nat → Nat} {adV : Nat → Nat} {B L : Nat} {xs : Nat → Int32} {cnt lim : M2 → Nat × Nat}
theorem m2_n90 : ∀ j, j < 29 → j < m2_n 90 := by decide +kernel
theorem m2_n90' : m2_n 90 = 29 := by decide +kernel
theorem m2_n92 : 0 < m2_n 92 := by decide +kernel
theorem m2_xok (hL : L < 2 ^ 31) {y : Nat} (hy : y < 282) : dm_XOK dmE (m2O L xs) dmP dmN dmB dm_tb D dA vwCl ad m2_ok B m2_tl (fun _ _ => True) m2_okM cnt lim (dm_St ad adV B L xs) y := by
  intro p l e R s m args below meth c Qw c0 hctx
  refine ⟨dm_x1 hy (fun _ => trivial) (fun _ => trivial) (fun j hj => m2_n90 j hj) hctx, dm_x2 hy m2_n92 hctx, ?_, dm_x4 hy (fun _ => trivial) (fun j hj => by rw [← m2_n90']; exact hj) hctx, ?_⟩
  · obtain ⟨hx, hb, hml, hown, hts, hK, hs, hBs⟩ := hctx
    exact m2_harr L xs hL ⟨hs.1.1, hs.1.lt, hs.1.2⟩ ⟨hs.2.1.1, hs.2.1.lt, hs.2.1.2⟩
  · intro pc ls st σ i hi h8 h9
    exfalso
    rcases h8 with ⟨k, rfl⟩ | ⟨k, rfl⟩ | ⟨k, rfl⟩
    · obtain ⟨q, -, h⟩ := dm_so_i h9
      obtain ⟨q, h, -⟩ := dm_so_i h
      cases h
    · obtain ⟨x, l, rfl, h⟩ := dm_1_i h9
      have h := (dm_is_i h).2
      obtain ⟨q, h, -⟩ := dm_so_i h
      cases h
    · obtain ⟨x, l, rfl, h⟩ := dm_1_i h9
      have h := (dm_is_i h).2
      obtain ⟨q, -, h⟩ := dm_so_i h
      obtain ⟨q, h, -⟩ := dm_so_i h
      cases h
end XK
section XK2
variable {D : va_G} {dA : FieldType → ClassId} {ad : Nat → Nat → Nat} {adV : Nat → Nat} {B L : Nat} {xs : Nat → Int32} {cnt lim : M2 → Nat × Nat}
theorem m2_xoka (hL : L < 2 ^ 31) (y : Nat) : dm_XOK dmE (m2O L xs) dmP dmN dmB dm_tb D dA vwCl ad m2_ok B m2_tl (fun _ _ => True) m2_okM cnt lim (dm_St ad adV B L xs) y := by
  by_cases hy : y < 282
  · exact m2_xok hL hy
  obtain ⟨n, rfl⟩ : ∃ n, y = n + 282 := ⟨y - 282, by omega⟩
  have hn := dm_none n
  intro p l e R s m args below meth c Qw c0 hctx
  obtain ⟨hx, hb, hml, hown, hts, hK, hs, hBs⟩ := hctx
  rw [hn]
  refine ⟨fun k n i v hi hv => ?_, fun k v hv => ?_, m2_harr L xs hL ⟨hs.1.1, hs.1.lt, hs.1.2⟩ ⟨hs.2.1.1, hs.2.1.lt, hs.2.1.2⟩, fun call bi pc ls st σ i k q _ _ hi => ?_, fun pc ls st σ i hi => ?_⟩
  · cases hv
  · cases hv
  · cases hi
  · cases hi
end XK2
