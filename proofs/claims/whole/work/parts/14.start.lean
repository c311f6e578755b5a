def st_a : Option (Unit × am_Mem) := fn11_init 100000 (am_new am_0 11 0) 1
def st_M3 : am_Mem := match st_a with
  | some q => q.2
  | none => am_0
def st_b : Option (Unit × am_Mem) := fn12_init (am_new st_M3 12 0) 110
def st_M7 : am_Mem := match st_b with
  | some q => q.2
  | none => am_0
def st_M : am_Mem := am_new st_M7 15 1
set_option maxRecDepth 20000 in
theorem st_a1 : st_a.isSome = true := by decide +kernel
set_option maxRecDepth 20000 in
theorem st_a2 : am_n st_M3 = 109 := by decide +kernel
set_option maxRecDepth 20000 in
theorem st_b1 : st_b.isSome = true := by decide +kernel
set_option maxRecDepth 20000 in
theorem st_b2 : am_n st_M7 = 140 := by decide +kernel
theorem st_ae : fn11_init 100000 (am_new am_0 11 0) 1 = some ((), st_M3) := by
  have h := st_a1
  show st_a = some ((), st_M3)
  unfold st_M3
  cases e : st_a with
  | none => rw [e] at h; cases h
  | some q => rfl
theorem st_be : fn12_init (am_new st_M3 12 0) 110 = some ((), st_M7) := by
  have h := st_b1
  show st_b = some ((), st_M7)
  unfold st_M7
  cases e : st_b with
  | none => rw [e] at h; cases h
  | some q => rfl
theorem st_law (Ls : Nat) (xs : Nat → Int32) : fnL_law_b0 100000 Ls xs am_0 = fnL_law_b23 100000 Ls xs 513 1 110 141 0 st_M := by
  unfold fnL_law_b0
  have e1 : am_n am_0 + 1 = 1 := rfl
  have e0 : am_k (am_new am_0 11 0) 1 11 = true := rfl
  rw [e1, e0, nk_ck, lw_bd st_ae, st_a2]
  have e2 : am_k (am_new st_M3 12 0) (109 + 1) 12 = true := lw_kt (by have := rK_new_eq st_M3 12 0; rw [st_a2] at this; exact this)
  rw [e2, nk_ck, lw_bd st_be, st_b2]
  rfl
set_option maxRecDepth 20000 in
theorem st_s1 : ∀ a, a ≤ 141 → am_K st_M a = sh_Kl.getD a 99 ∧ am_L st_M a = sh_Ll.getD a 0 := by decide +kernel
set_option maxRecDepth 20000 in
theorem st_s2 : ∀ q ∈ sh_Rl, am_R st_M q.1 q.2.1 = q.2.2 := by decide +kernel
theorem st_shp : Shp st_M := ⟨by show 141 ≤ am_n st_M7 + 1; rw [st_b2]; decide, st_s1, st_s2⟩
set_option maxRecDepth 20000 in
theorem st_z : ∀ q ∈ ([(2, 7), (110, 2), (102, 1), (110, 42), (1, 11), (110, 19), (110, 40), (110, 18), (104, 1), (106, 2), (120, 0), (108, 2), (120, 1)] : List (Nat × Nat)), am_I st_M q.1 q.2 = 0 := by decide +kernel
set_option maxRecDepth 20000 in
theorem st_r : am_R st_M 97 5 = 0 := by decide +kernel
theorem st_inv : Inv st_M := by
  refine ⟨0, 0, fun _ => (0, 0, 0, []), st_shp, ⟨0, by omega, ?_, ?_, fun i h => by omega⟩, ⟨0, by omega, ?_, ?_, fun i h => by omega⟩, ?_, ⟨0, by omega, ?_, ?_⟩, by omega, ?_, ?_, ⟨by omega, by omega, ?_, fun i h => by omega⟩, Or.inl ⟨?_, ?_⟩, Or.inl ⟨?_, ?_⟩⟩
  · exact st_z (2, 7) (by decide)
  · exact st_z (110, 2) (by decide)
  · exact st_z (102, 1) (by decide)
  · exact st_z (110, 42) (by decide)
  · intro h; exact absurd st_r h
  · exact st_z (1, 11) (by decide)
  · exact st_z (110, 19) (by decide)
  · exact st_z (110, 40) (by decide)
  · exact st_z (110, 18) (by decide)
  · exact st_z (104, 1) (by decide)
  · exact st_z (106, 2) (by decide)
  · exact st_z (120, 0) (by decide)
  · exact st_z (108, 2) (by decide)
  · exact st_z (120, 1) (by decide)
/-- all from the calls one by one -/
theorem pure_of (h : OK_all 100000 Inv) : am_Pure := by
  intro Ls hL xs
  obtain ⟨M', hM⟩ := lw_loop h hL 513 0 st_M (by omega) (by omega) st_inv
  exact ⟨100000, M', by rw [st_law]; exact hM⟩
