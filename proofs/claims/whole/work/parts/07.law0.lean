theorem aw_4_152 : am_w (.code yX11_square cX11_square 5 (some .int)) := am_wm4 152 rfl rfl
theorem aw_4_149 : am_w (.methodLink RL 7 yX11_square) := am_wm4 149 rfl rfl
theorem aw_4_151 : am_w (.selects RX11 yX11_square yX11_square) := am_wm4 151 rfl rfl
theorem aw_4_150 : am_w (.instanceMethod yX11_square) := am_wm4 150 rfl rfl
theorem aw_4_148 : am_w (.classLink RL 13 ex_N) := am_wm4 148 rfl rfl
theorem aw_4_225 : am_w (.code yX11_line cX11_line 5 (some .int)) := am_wm4 225 rfl rfl
theorem aw_4_222 : am_w (.methodLink RL 15 yX11_line) := am_wm4 222 rfl rfl
theorem aw_4_224 : am_w (.selects RX11 yX11_line yX11_line) := am_wm4 224 rfl rfl
theorem aw_4_223 : am_w (.instanceMethod yX11_line) := am_wm4 223 rfl rfl
theorem aw_4_145 : am_w (.methodLink RL 37 yL_square) := am_wm4 145 rfl rfl
theorem aw_4_147 : am_w (.codeWith yL_square cL_square 6 (some .int) [(0, 12, 15, 13)]) := am_wm4 147 rfl rfl
theorem aw_4_146 : am_w (.static yL_square) := am_wm4 146 rfl rfl
theorem aw_1_0 : am_w (.initialized "SquareCutsLaw") := am_wm1 0 rfl rfl
theorem aw_4_219 : am_w (.methodLink RL 92 yL_line) := am_wm4 219 rfl rfl
theorem aw_4_221 : am_w (.codeWith yL_line cL_line 6 (some .int) [(0, 12, 15, 13)]) := am_wm4 221 rfl rfl
theorem aw_4_220 : am_w (.static yL_line) := am_wm4 220 rfl rfl
theorem cbL_7 : am_CB RL 7 yX11_square cX11_square 5 (some .int) 3 := ⟨aw_1_1, aw_4_152, ⟨by decide, by decide⟩, by decide +kernel⟩
theorem cvL_7 : am_CV RL 7 yX11_square cX11_square 5 (some .int) 3 11 := ⟨cbL_7, aw_4_149, aw_4_150, aw_4_151, by decide, _, _, rfl⟩
theorem cbL_15 : am_CB RL 15 yX11_line cX11_line 5 (some .int) 3 := ⟨aw_1_1, aw_4_225, ⟨by decide, by decide⟩, by decide +kernel⟩
theorem cvL_15 : am_CV RL 15 yX11_line cX11_line 5 (some .int) 3 11 := ⟨cbL_15, aw_4_222, aw_4_223, aw_4_224, by decide, _, _, rfl⟩
theorem cx_square : am_CX RL 37 yL_square cL_square 6 (some .int) [(0, 12, 15, 13)] 5 := ⟨aw_1_0, aw_4_147, ⟨by decide, by decide⟩, by decide +kernel, aw_4_145, aw_4_146⟩
theorem cx_line : am_CX RL 92 yL_line cL_line 6 (some .int) [(0, 12, 15, 13)] 5 := ⟨aw_1_0, aw_4_221, ⟨by decide, by decide⟩, by decide +kernel, aw_4_219, aw_4_220⟩
def rmL_square : Room := { frames := 7, cells := 1, slots := 6, locals := 106 }
def fnL_square (M : am_Mem) (r0 : Nat) (x1 x2 x3 : Int32) (r4 : Nat) : Option (Int32 × am_Mem) := am_ck (am_k M r0 11) (match fn11_square M r0 x1 x2 x3 with
  | some q => am_ck (am_k q.2 r4 15) (am_ck (am_in 0 (am_L q.2 r4)) (some (0, am_wJ q.2 r4 (Int32.toNatClampNeg 0) q.1.toInt64)))
  | none => match fnx11_square M r0 x1 x2 x3 with
    | some q => some (1, am_new q.2 98 0)
    | none => none)
set_option maxRecDepth 20000 in
theorem mtL_square {l : Launch} (hst : l.stackTraces = false) {v : Int32} {M M' : am_Mem} {r0 : Nat} {x1 x2 x3 : Int32} {r4 : Nat} (h : fnL_square M r0 x1 x2 x3 r4 = some (v, M')) : am_MetW l yL_square cL_square 6 (some .int) [(0, 12, 15, 13)] rmL_square 1 6 [.inr (.inr (.inl r0)), .inl x1, .inl x2, .inl x3, .inr (.inr (.inl r4))] M (some (.inl v)) M' := by
  refine am_mkW (by decide) (Nat.le_of_ble_eq_true rfl) (fun G cx hnd => ?_)
  show G 0 [(0, .inr (.inr (.inl r0))), (1, .inl x1), (2, .inl x2), (3, .inl x3), (4, .inr (.inr (.inl r4)))] [] M 0 0
  unfold fnL_square at h
  obtain ⟨hk, h⟩ := am_ck_some h
  cases hq : fn11_square M r0 x1 x2 x3 with
  | some q =>
    rw [hq] at h
    obtain ⟨h1, h⟩ := am_ck_some h
    obtain ⟨h2, h⟩ := am_ck_some h
    obtain ⟨rfl, rfl⟩ := am_fin h
    refine am_aload cx 4 dL_square_0 rfl ?_
    refine am_iconst cx (v := 0) dL_square_2 (by decide) ?_
    refine am_aload_n cx 0 dL_square_3 rfl ?_
    refine am_iload_n cx 1 dL_square_4 rfl ?_
    refine am_iload_n cx 2 dL_square_5 rfl ?_
    refine am_iload_n cx 3 dL_square_6 rfl ?_
    refine am_callV1 cx [.inl x1, .inl x2, .inl x3] dL_square_7 cvL_7 (mt11_square (v := q.1) (M' := q.2) hq) (am_ke hk) ⟨rfl, rfl, Nat.le_of_ble_eq_true rfl, Nat.le_of_ble_eq_true rfl⟩ rfl (Nat.le_of_ble_eq_true rfl) ⟨Nat.le_of_ble_eq_true rfl, Nat.le_of_ble_eq_true rfl⟩ ?_
    refine am_i2l cx dL_square_10 ?_
    refine am_last cx dL_square_11 (am_ke h1) h2 ?_
    refine am_goto cx (tgt := 19) dL_square_12 (by decide) ?_
    refine am_iconst cx (v := 0) dL_square_19 (by decide) ?_
    refine am_widen cx (k' := 1) (n' := 6) (Nat.le_of_ble_eq_true rfl) (Nat.le_of_ble_eq_true rfl) ?_
    exact am_iret cx dL_square_20
  | none =>
    rw [hq] at h
    cases hq2 : fnx11_square M r0 x1 x2 x3 with
    | none => rw [hq2] at h; exact am_no h
    | some q =>
      rw [hq2] at h
      obtain ⟨rfl, rfl⟩ := am_fin h
      refine am_aload cx 4 dL_square_0 rfl ?_
      refine am_iconst cx (v := 0) dL_square_2 (by decide) ?_
      refine am_aload_n cx 0 dL_square_3 rfl ?_
      refine am_iload_n cx 1 dL_square_4 rfl ?_
      refine am_iload_n cx 2 dL_square_5 rfl ?_
      refine am_iload_n cx 3 dL_square_6 rfl ?_
      refine am_callVX hnd [.inl x1, .inl x2, .inl x3] dL_square_7 cvL_7 (mtx11_square hst (M' := q.2) hq2) (am_ke hk) ⟨rfl, rfl, Nat.le_of_ble_eq_true rfl, Nat.le_of_ble_eq_true rfl⟩ rfl (Nat.le_of_ble_eq_true rfl) ⟨Nat.le_of_ble_eq_true rfl, Nat.le_of_ble_eq_true rfl⟩ (by decide) (by decide) aw_4_148 dL_square_15 (Nat.le_of_ble_eq_true rfl) ?_
      refine am_iconst cx (v := 1) dL_square_17 (by decide) ?_
      refine am_widen cx (k' := 1) (n' := 6) (Nat.le_of_ble_eq_true rfl) (Nat.le_of_ble_eq_true rfl) ?_
      exact am_iret cx dL_square_18

def rmL_line : Room := { frames := 7, cells := 1, slots := 6, locals := 106 }
def fnL_line (N : Nat) (M : am_Mem) (r0 : Nat) (x1 x2 x3 : Int32) (r4 : Nat) : Option (Int32 × am_Mem) := am_ck (am_k M r0 11) (match fn11_line N M r0 x1 x2 x3 with
  | some q => am_ck (am_k q.2 r4 15) (am_ck (am_in 0 (am_L q.2 r4)) (some (0, am_wJ q.2 r4 (Int32.toNatClampNeg 0) q.1.toInt64)))
  | none => match fnx11_line N M r0 x1 x2 x3 with
    | some q => some (1, am_new q.2 98 0)
    | none => none)
set_option maxRecDepth 20000 in
theorem mtL_line {l : Launch} (hst : l.stackTraces = false) {v : Int32} {M M' : am_Mem} {N : Nat} {r0 : Nat} {x1 x2 x3 : Int32} {r4 : Nat} (h : fnL_line N M r0 x1 x2 x3 r4 = some (v, M')) : am_MetW l yL_line cL_line 6 (some .int) [(0, 12, 15, 13)] rmL_line 1 6 [.inr (.inr (.inl r0)), .inl x1, .inl x2, .inl x3, .inr (.inr (.inl r4))] M (some (.inl v)) M' := by
  refine am_mkW (by decide) (Nat.le_of_ble_eq_true rfl) (fun G cx hnd => ?_)
  show G 0 [(0, .inr (.inr (.inl r0))), (1, .inl x1), (2, .inl x2), (3, .inl x3), (4, .inr (.inr (.inl r4)))] [] M 0 0
  unfold fnL_line at h
  obtain ⟨hk, h⟩ := am_ck_some h
  cases hq : fn11_line N M r0 x1 x2 x3 with
  | some q =>
    rw [hq] at h
    obtain ⟨h1, h⟩ := am_ck_some h
    obtain ⟨h2, h⟩ := am_ck_some h
    obtain ⟨rfl, rfl⟩ := am_fin h
    refine am_aload cx 4 dL_line_0 rfl ?_
    refine am_iconst cx (v := 0) dL_line_2 (by decide) ?_
    refine am_aload_n cx 0 dL_line_3 rfl ?_
    refine am_iload_n cx 1 dL_line_4 rfl ?_
    refine am_iload_n cx 2 dL_line_5 rfl ?_
    refine am_iload_n cx 3 dL_line_6 rfl ?_
    refine am_callV1 cx [.inl x1, .inl x2, .inl x3] dL_line_7 cvL_15 (mt11_line (v := q.1) (M' := q.2) hq) (am_ke hk) ⟨rfl, rfl, Nat.le_of_ble_eq_true rfl, Nat.le_of_ble_eq_true rfl⟩ rfl (Nat.le_of_ble_eq_true rfl) ⟨Nat.le_of_ble_eq_true rfl, Nat.le_of_ble_eq_true rfl⟩ ?_
    refine am_i2l cx dL_line_10 ?_
    refine am_last cx dL_line_11 (am_ke h1) h2 ?_
    refine am_goto cx (tgt := 19) dL_line_12 (by decide) ?_
    refine am_iconst cx (v := 0) dL_line_19 (by decide) ?_
    refine am_widen cx (k' := 1) (n' := 6) (Nat.le_of_ble_eq_true rfl) (Nat.le_of_ble_eq_true rfl) ?_
    exact am_iret cx dL_line_20
  | none =>
    rw [hq] at h
    cases hq2 : fnx11_line N M r0 x1 x2 x3 with
    | none => rw [hq2] at h; exact am_no h
    | some q =>
      rw [hq2] at h
      obtain ⟨rfl, rfl⟩ := am_fin h
      refine am_aload cx 4 dL_line_0 rfl ?_
      refine am_iconst cx (v := 0) dL_line_2 (by decide) ?_
      refine am_aload_n cx 0 dL_line_3 rfl ?_
      refine am_iload_n cx 1 dL_line_4 rfl ?_
      refine am_iload_n cx 2 dL_line_5 rfl ?_
      refine am_iload_n cx 3 dL_line_6 rfl ?_
      refine am_callVX hnd [.inl x1, .inl x2, .inl x3] dL_line_7 cvL_15 (mtx11_line hst (M' := q.2) hq2) (am_ke hk) ⟨rfl, rfl, Nat.le_of_ble_eq_true rfl, Nat.le_of_ble_eq_true rfl⟩ rfl (Nat.le_of_ble_eq_true rfl) ⟨Nat.le_of_ble_eq_true rfl, Nat.le_of_ble_eq_true rfl⟩ (by decide) (by decide) aw_4_148 dL_line_15 (Nat.le_of_ble_eq_true rfl) ?_
      refine am_iconst cx (v := 1) dL_line_17 (by decide) ?_
      refine am_widen cx (k' := 1) (n' := 6) (Nat.le_of_ble_eq_true rfl) (Nat.le_of_ble_eq_true rfl) ?_
      exact am_iret cx dL_line_18

