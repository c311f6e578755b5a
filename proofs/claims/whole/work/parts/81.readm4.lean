section
variable {T : Nat → Int32} {n p : Nat} {M : am_Mem}
theorem is_m {N : Nat} (h : MAt T n p M) {w : Nat} {a b : Int64} (hs : fn12_spelled N M w = some (b, M)) (hw : tkK T n p = 1 → (wW T n p = a ↔ wWm T n p = b)) : ∃ v, fn12_is N M 110 w = some (v, M) ∧ ((v = 1 ∧ tkK T n p = 1 ∧ wW T n p = a) ∨ (v = 0 ∧ ¬ (tkK T n p = 1 ∧ wW T n p = a))) := by
  unfold fn12_is fn12_is_b0 fn12_is_b24 fn12_is_b25
  rw [nk_k, sk110 h.1, nk_dd, ma_k h]
  by_cases k1 : tkK T n p = 1
  · rw [if_pos ((km_all T n p).2.1.mpr k1), hs, nk_bd, show am_J M 110 8 = wWm T n p from ma_w h k1]
    by_cases q : wWm T n p = b
    · rw [if_pos ((lg_cmp_eq _ _).mpr q), show ((1 : Int32) == 0 || (1 : Int32) == 1) = true from rfl, nk_ck]
      exact ⟨1, rfl, Or.inl ⟨rfl, k1, (hw k1).mpr q⟩⟩
    · rw [if_neg (fun z => q ((lg_cmp_eq _ _).mp z)), show ((0 : Int32) == 0 || (0 : Int32) == 1) = true from rfl, nk_ck]
      exact ⟨0, rfl, Or.inr ⟨rfl, fun z => q ((hw k1).mp z.2)⟩⟩
  · rw [if_neg (fun z => k1 ((km_all T n p).2.1.mp z)), show ((0 : Int32) == 0 || (0 : Int32) == 1) = true from rfl, nk_ck]
    exact ⟨0, rfl, Or.inr ⟨rfl, fun z => k1 z.1⟩⟩
theorem isD_m {N : Nat} (hN : 100000 ≤ N) (h : MAt T n p M) : ∃ v, fn12_is N M 110 5 = some (v, M) ∧ ((v = 1 ∧ isDw T n p) ∨ (v = 0 ∧ ¬ isDw T n p)) :=
  is_m h (sp_5 hN M) (fun k => wd (tk_1 k).2)
theorem isN_m {N : Nat} (hN : 100000 ≤ N) (h : MAt T n p M) : ∃ v, fn12_is N M 110 6 = some (v, M) ∧ ((v = 1 ∧ isNw T n p) ∨ (v = 0 ∧ ¬ isNw T n p)) :=
  is_m h (sp_6 hN M) (fun k => wn (tk_1 k).2)
/-- is the token a name -/
theorem iN_m {N : Nat} (hN : 100000 ≤ N) (h : MAt T n p M) : ∃ v, fn12_isName N M 110 = some (v, M) ∧ ((v = 1 ∧ tkK T n p = 1 ∧ ¬ isDw T n p ∧ ¬ isNw T n p) ∨ (v = 0 ∧ ¬ (tkK T n p = 1 ∧ ¬ isDw T n p ∧ ¬ isNw T n p))) := by
  unfold fn12_isName fn12_isName_b0 fn12_isName_b30 fn12_isName_b31
  rw [nk_k, sk110 h.1, nk_dd, ma_k h]
  by_cases k1 : tkK T n p = 1
  · rw [if_pos ((km_all T n p).2.1.mpr k1)]
    obtain ⟨v, a1, a2⟩ := isD_m hN h
    rw [a1, nk_bd]
    rcases a2 with ⟨av, aw⟩ | ⟨av, aw⟩
    · rw [av, if_neg z_1, show ((0 : Int32) == 0 || (0 : Int32) == 1) = true from rfl, nk_ck]
      exact ⟨0, rfl, Or.inr ⟨rfl, fun z => z.2.1 aw⟩⟩
    · rw [av, if_pos rfl, nk_k, sk110 h.1, nk_dd]
      obtain ⟨u, b1, b2⟩ := isN_m hN h
      rw [b1, nk_bd]
      rcases b2 with ⟨bu, bw⟩ | ⟨bu, bw⟩
      · rw [bu, if_neg z_1, show ((0 : Int32) == 0 || (0 : Int32) == 1) = true from rfl, nk_ck]
        exact ⟨0, rfl, Or.inr ⟨rfl, fun z => z.2.2 bw⟩⟩
      · rw [bu, if_pos rfl, show ((1 : Int32) == 0 || (1 : Int32) == 1) = true from rfl, nk_ck]
        exact ⟨1, rfl, Or.inl ⟨rfl, k1, aw, bw⟩⟩
  · rw [if_neg (fun z => k1 ((km_all T n p).2.1.mp z)), show ((0 : Int32) == 0 || (0 : Int32) == 1) = true from rfl, nk_ck]
    exact ⟨0, rfl, Or.inr ⟨rfl, fun z => k1 z.1⟩⟩
/-- the names walked -/
theorem nn_loop {N c : Nat} (hc : c ≤ 6) (s : Shp M) (e11 : am_I M 110 11 = nI c) : ∀ k j x fuel, j + k = c → k < fuel → (x = 0 ∨ x = 1) → ∃ x' : Int32, fn12_newName_b4 N fuel 110 x (nI j) M = am_bd (fn12_isName N M 110) (fun v2 M3 => am_ck (am_k M3 110 12) (am_bd (fn12_must M3 110 v2 (1 : Int32)) (fun v6 M7 => if v6 = 0 then fn12_newName_b69 N M7 else if x' = 0 then fn12_newName_b62 N 110 (1 : Int32) 110 M7 else fn12_newName_b62 N 110 (0 : Int32) 110 M7))) ∧ (x' = 0 ↔ x = 0 ∧ ∀ i, j ≤ i → i < c → ¬ am_J M 112 i = am_J M 110 8) := by
  intro k
  induction k with
  | zero =>
    intro j x fuel hj hf hx
    obtain ⟨g, rfl⟩ : ∃ g, fuel = g + 1 := ⟨fuel - 1, by omega⟩
    refine ⟨x, ?_, fun e => ⟨e, fun i h1 h2 => by omega⟩, fun e => e.1⟩
    show fn12_newName_b4B N (fn12_newName_b4 N g) 110 x (nI j) M = _
    unfold fn12_newName_b4B
    rw [nk_k, sk110 s, nk_dd, e11, if_pos (nI_le (by omega) (by omega))]
  | succ k ih =>
    intro j x fuel hj hf hx
    obtain ⟨g, rfl⟩ : ∃ g, fuel = g + 1 := ⟨fuel - 1, by omega⟩
    have st : fn12_newName_b4 N (g + 1) 110 x (nI j) M = (if am_J M 112 j = am_J M 110 8 then fn12_newName_b4 N g 110 (x ||| 1) (nI (j + 1)) M else fn12_newName_b4 N g 110 (x ||| 0) (nI (j + 1)) M) := by
      show fn12_newName_b4B N (fn12_newName_b4 N g) 110 x (nI j) M = _
      unfold fn12_newName_b4B fn12_newName_b32 fn12_newName_b34
      rw [nk_k, sk110 s, nk_dd, e11, if_neg (nI_ge (by omega) (by omega)), sr110_12 s, nk_k, sk112 s, nk_dd, sl112 s, nk_in (by omega) (by decide), nk_ck, nI_clamp (by omega), nI_1]
      by_cases q : am_J M 112 j = am_J M 110 8
      · rw [if_pos q, if_pos ((lg_cmp_eq _ _).mpr q)]
      · rw [if_neg q, if_neg (fun z => q ((lg_cmp_eq _ _).mp z))]
    rw [st]
    by_cases q : am_J M 112 j = am_J M 110 8
    · have e : x ||| 1 = 1 := by rcases hx with e | e <;> rw [e] <;> decide
      rw [if_pos q, e]
      obtain ⟨x', a1, a2⟩ := ih (j + 1) 1 g (by omega) (by omega) (Or.inr rfl)
      refine ⟨x', a1, fun z => absurd (a2.mp z).1 z_1, fun z => absurd q (z.2 j (Nat.le_refl _) (by omega))⟩
    · have e : x ||| 0 = x := by rcases hx with e | e <;> rw [e] <;> decide
      rw [if_neg q, e]
      obtain ⟨x', a1, a2⟩ := ih (j + 1) x g (by omega) (by omega) hx
      refine ⟨x', a1, fun z => ⟨(a2.mp z).1, fun i h1 h2 => ?_⟩, fun z => a2.mpr ⟨z.1, fun i h1 h2 => z.2 i (by omega) h2⟩⟩
      by_cases ei : i = j
      · rw [ei]; exact q
      · exact (a2.mp z).2 i (by omega) h2
end
