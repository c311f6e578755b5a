theorem pk_sub_toInt' {m : Nat} (hm : m < 2 ^ 31) : (nI m - 1).toInt = (m : Int) - 1 := by
  rw [Int32.toInt_sub, nI_toInt hm, show (1 : Int32).toInt = 1 from rfl, Int.bmod_def]
  omega
theorem wi_eq (M : am_Mem) (a b c : Int64) : fn12_within M a b c = some (if b ≤ a ∧ a ≤ c then 1 else 0, M) := by
  unfold fn12_within fn12_within_b0 fn12_within_b17 fn12_within_b18
  simp only [lg_cmp_lt, lg_cmp_gt]
  by_cases h1 : a < b
  · rw [if_pos h1, if_neg (fun h => absurd h1 (Int64.not_lt.mpr h.1))]; rfl
  · rw [if_neg h1]
    by_cases h2 : c < a
    · rw [if_pos h2, if_neg (fun h => absurd h2 (Int64.not_lt.mpr h.2))]; rfl
    · rw [if_neg h2, if_pos ⟨Int64.not_lt.mp h1, Int64.not_lt.mp h2⟩]; rfl
theorem wi_c (x b c : Int32) : (b.toInt64 ≤ x.toInt64 ∧ x.toInt64 ≤ c.toInt64) ↔ (b ≤ x ∧ x ≤ c) := by
  rw [Int64.le_iff_toInt_le, Int64.le_iff_toInt_le, Int32.le_iff_toInt_le, Int32.le_iff_toInt_le, Int32.toInt_toInt64, Int32.toInt_toInt64, Int32.toInt_toInt64]
theorem wi_no (M : am_Mem) {x : Int32} {m : Nat} (hm : m < 2 ^ 31) (h : x < 0 ∨ nI m ≤ x) : fn12_within M x.toInt64 0 ((nI m - 1).toInt64) = some (0, M) := by
  rw [wi_eq, show (0 : Int64) = (0 : Int32).toInt64 from rfl, if_neg]
  rw [wi_c]
  intro ⟨a, b⟩
  have e : (nI m - 1).toInt = (m : Int) - 1 := pk_sub_toInt' hm
  rw [Int32.le_iff_toInt_le] at a b
  rw [e] at b
  rcases h with h | h
  · rw [Int32.lt_iff_toInt_lt] at h; omega
  · rw [Int32.le_iff_toInt_le, nI_toInt hm] at h; omega
theorem wi_yes (M : am_Mem) {i m : Nat} (hm : m < 2 ^ 31) (h : i < m) : fn12_within M (nI i).toInt64 0 ((nI m - 1).toInt64) = some (1, M) := by
  rw [wi_eq, show (0 : Int64) = (0 : Int32).toInt64 from rfl, if_pos]
  rw [wi_c]
  have e : (nI m - 1).toInt = (m : Int) - 1 := pk_sub_toInt' hm
  rw [Int32.le_iff_toInt_le, Int32.le_iff_toInt_le, e, nI_toInt (by omega)]
  have : (0 : Int32).toInt = 0 := rfl
  omega
/-- a number between two bounds, or not -/
theorem wi_lit (M : am_Mem) (x b c : Int32) : fn12_within M x.toInt64 b.toInt64 c.toInt64 = some (if b ≤ x ∧ x ≤ c then 1 else 0, M) := by
  rw [wi_eq]
  by_cases h : b ≤ x ∧ x ≤ c
  · rw [if_pos h, if_pos ((wi_c x b c).mpr h)]
  · rw [if_neg h, if_neg (fun g => h ((wi_c x b c).mp g))]
section
variable {M : am_Mem} {told m : Nat} {D : Nat → Rc}
theorem i_shp (h : InvAt M told m D) : Shp M := h.1
theorem i_18 (h : InvAt M told m D) : am_I M 110 18 = nI m := h.2.2.2.2.2.2.2.1
theorem i_40 (h : InvAt M told m D) : am_I M 110 40 = nI told := h.2.2.2.2.2.2.1
theorem i_t6 (h : InvAt M told m D) : told ≤ 6 := h.2.2.2.2.2.1
theorem i_sh (h : InvAt M told m D) : ShR M 0 told m D := h.2.2.2.2.2.2.2.2.1
theorem i_m (h : InvAt M told m D) : m ≤ 12 := (i_sh h).1
theorem i_104 (h : InvAt M told m D) : am_I M 104 1 = nI m := (i_sh h).2.2.1
theorem i_rec (h : InvAt M told m D) {i : Nat} (hi : i < m) : RecR M 0 told i (D i) := (i_sh h).2.2.2 i hi
theorem i_til (h : InvAt M told m D) {i : Nat} (hi : i < m) : TilR M (am_R M 105 i) (D i) := (i_rec h hi).1
theorem i_row (h : InvAt M told m D) {i : Nat} (hi : i < m) : RowR M 117 (124 * i) (D i) := by
  have := (i_rec h hi).2.1
  rwa [show mA 0 = 117 from rfl, show mO 0 + 124 * i = 124 * i from Nat.zero_add _] at this
theorem i_good (h : InvAt M told m D) {i : Nat} (hi : i < m) : Good (D i) := (i_rec h hi).2.2.1
theorem i_len (h : InvAt M told m D) {i : Nat} (hi : i < m) : (D i).2.2.2.length ≤ 40 := good_len (i_good h hi)
/-- which rectangle is meant -/
theorem fi_no (h : InvAt M told m D) {x : Int32} (hx : x < 0 ∨ nI m ≤ x) : fn9_find M 104 x = some (0, M) := by
  unfold fn9_find fn9_find_b0 fn9_find_b12 fn9_find_b22
  by_cases h0 : x < 0
  · rw [if_pos h0]
  · have h1 : nI m ≤ x := hx.resolve_left h0
    rw [if_neg h0, nk_k, sk104 (i_shp h), i_104 h, if_neg (Int32.not_lt.mpr h1)]
    rfl
theorem fi_yes (h : InvAt M told m D) {i : Nat} (hi : i < m) : fn9_find M 104 (nI i) = some (am_R M 105 i, M) := by
  have hm := i_m h
  unfold fn9_find fn9_find_b0 fn9_find_b12 fn9_find_b22
  rw [if_neg (nI_pos (by omega)), nk_k, sk104 (i_shp h), i_104 h, if_pos (nI_lt hi (by omega)), sr104_0 (i_shp h), nk_k, sk105 (i_shp h), sl105 (i_shp h), nk_in (by omega) (by omega), nI_clamp (by omega)]
  rfl
theorem mi_no (h : InvAt M told m D) {x : Int32} (hx : x < 0 ∨ nI m ≤ x) : fn12_isRect M 110 x = some (0, M) := by
  have hm := i_m h
  unfold fn12_isRect fn12_isRect_b0
  rw [nk_k, sk110 (i_shp h), i_18 h, wi_no M (by omega) hx]
  rfl
theorem mi_yes (h : InvAt M told m D) {i : Nat} (hi : i < m) : fn12_isRect M 110 (nI i) = some (1, M) := by
  have hm := i_m h
  unfold fn12_isRect fn12_isRect_b0
  rw [nk_k, sk110 (i_shp h), i_18 h, wi_yes M (by omega) hi]
  rfl
theorem mo_of (h : Shp M) {i k : Nat} {x : Int32} (hi : i < 12) (hk : k < 124) (hx : x = nI k) : fn12_of M 110 (nI i) x = some (am_I M 117 (124 * i + k), M) := by
  subst hx
  have e : (124 : Int32) * nI i + nI k = nI (124 * i + k) := by
    rw [show (124 : Int32) = nI 124 from rfl, pk_mul, nI_add]
  unfold fn12_of fn12_of_b0
  rw [nk_k, sk110 h, sr110_17 h, nk_k, sk117 h, sl117 h, e, nk_in (by omega) (by omega), nI_clamp (by omega)]
  rfl
theorem lit_add (a k : Nat) : (OfNat.ofNat a : Int32) + nI k = nI (a + k) := nI_add a k
theorem mv_n (h : InvAt M told m D) {i : Nat} (hi : i < m) : fn12_of M 110 (nI i) 0 = some (nI (D i).2.2.2.length, M) := by
  have hm := i_m h
  rw [mo_of (i_shp h) (k := 0) (x := 0) (by omega) (by omega) rfl, Nat.add_zero, (i_row h hi).1]
theorem mv_w (h : InvAt M told m D) {i : Nat} (hi : i < m) : fn12_of M 110 (nI i) 1 = some ((D i).2.1, M) := by
  have hm := i_m h
  rw [mo_of (i_shp h) (k := 1) (x := 1) (by omega) (by omega) rfl, (i_row h hi).2.1]
theorem mv_h (h : InvAt M told m D) {i : Nat} (hi : i < m) : fn12_of M 110 (nI i) 2 = some ((D i).2.2.1, M) := by
  have hm := i_m h
  rw [mo_of (i_shp h) (k := 2) (x := 2) (by omega) (by omega) rfl, (i_row h hi).2.2.1]
theorem mv_f (h : InvAt M told m D) {i : Nat} (hi : i < m) : fn12_of M 110 (nI i) 3 = some ((D i).1, M) := by
  have hm := i_m h
  rw [mo_of (i_shp h) (k := 3) (x := 3) (by omega) (by omega) rfl, (i_row h hi).2.2.2.1]
theorem mv_X (h : InvAt M told m D) {i k : Nat} (hi : i < m) (hk : k < (D i).2.2.2.length) : fn12_of M 110 (nI i) (4 + nI k) = some (qX (D i).2.2.2 k, M) := by
  have hm := i_m h
  have hl := i_len h hi
  rw [mo_of (i_shp h) (k := 4 + k) (by omega) (by omega) (lit_add 4 k), (i_row h hi).2.2.2.2.1 k hk]
theorem mv_Y (h : InvAt M told m D) {i k : Nat} (hi : i < m) (hk : k < (D i).2.2.2.length) : fn12_of M 110 (nI i) (44 + nI k) = some (qY (D i).2.2.2 k, M) := by
  have hm := i_m h
  have hl := i_len h hi
  rw [mo_of (i_shp h) (k := 44 + k) (by omega) (by omega) (lit_add 44 k), (i_row h hi).2.2.2.2.2.1 k hk]
theorem mv_S (h : InvAt M told m D) {i k : Nat} (hi : i < m) (hk : k < (D i).2.2.2.length) : fn12_of M 110 (nI i) (84 + nI k) = some (qS (D i).2.2.2 k, M) := by
  have hm := i_m h
  have hl := i_len h hi
  rw [mo_of (i_shp h) (k := 84 + k) (by omega) (by omega) (lit_add 84 k), (i_row h hi).2.2.2.2.2.2 k hk]
theorem mv_fail (h : InvAt M told m D) {i : Nat} (hi : i < m) : fn12_doesFail M 110 (nI i) = some ((D i).1, M) := by
  unfold fn12_doesFail fn12_doesFail_b0 fn12_doesFail_b15
  rw [nk_k, sk110 (i_shp h), mv_f h hi]
  rcases good_01 (i_good h hi) with e | e <;> rw [e] <;> rfl
theorem mv_kind (h : InvAt M told m D) {i : Nat} (hi : i < m) : fn12_kindOf M 110 (nI i) = some (am_I M (am_R M 105 i) 0, M) := by
  have hm := i_m h
  have ht := i_t6 h
  unfold fn12_kindOf fn12_kindOf_b0 fn12_kindOf_b18
  rw [nk_k, sk110 (i_shp h), i_40 h]
  by_cases hc : told ≤ i
  · rw [if_pos (nI_le hc (by omega)), (i_rec h hi).2.2.2.2.2 hc |>.1]
    rfl
  · rw [if_neg (nI_ge (by omega) (by omega)), sr110_23 (i_shp h), nk_k, sk121 (i_shp h), sl121 (i_shp h), nk_in (by omega) (by omega), nI_clamp (by omega)]
    rw [((i_rec h hi).2.2.2.2.1 (by omega)).1]
    rfl
end
