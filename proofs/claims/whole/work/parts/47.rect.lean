theorem sq_nn (a : Int) : 0 ≤ a * a := by
  rcases Int.le_total 0 a with h | h
  · exact Int.mul_nonneg h h
  · have := Int.mul_nonneg (show 0 ≤ -a by omega) (show 0 ≤ -a by omega)
    rw [Int.neg_mul_neg] at this
    exact this
theorem arI_bd {w h : Int} {L : List Sq} (g : Geo w h L) (x1 y1 x2 y2 : Int) : 0 ≤ arI L x1 y1 x2 y2 L.length ∧ arI L x1 y1 x2 y2 L.length ≤ 1000000000 * 1000000000 := by
  have gz := (geo_Z.mp g).2.2.2.2
  have hp := geo_pos g
  have h1 := g.2.2.1
  have h2 := g.2.2.2.1
  rw [arI_L]
  constructor
  · have := sumL_le (g := fun _ => 0) (h := sIn x1 y1 x2 y2) (L := L.map toZ) (fun q _ => by
      by_cases e : inR x1 y1 x2 y2 q
      · rw [sIn_pos e]; exact sq_nn _
      · rw [sIn_neg e]; exact Int.le_refl _)
    rw [sumL_0 (fun _ _ => rfl)] at this
    exact this
  · have a1 := sumL_le (g := sIn x1 y1 x2 y2) (h := fun q => q.2.2 * q.2.2) (L := L.map toZ) (fun q _ => by
      by_cases e : inR x1 y1 x2 y2 q
      · rw [sIn_pos e]; exact Int.le_refl _
      · rw [sIn_neg e]; exact sq_nn _)
    rw [← arZ_sum, gz.2.2.1] at a1
    have a2 : w * h ≤ 1000000000 * 1000000000 := Int.mul_le_mul h1 h2 (by omega) (by omega)
    omega
section
variable {M : am_Mem} {m : Nat} {D : Nat → Rc}
theorem m_part {N : Nat} (hN : 100000 ≤ N) (h : ModI M m D) {i : Nat} (hi : i < m) {w y : Int} (g : Geo w y (D i).2.2.2) {a b : Nat} (ha : a < (D i).2.2.2.length) (hb : b < (D i).2.2.2.length) (h1 : (qX (D i).2.2.2 a).toInt < (qX (D i).2.2.2 b).toInt + (qS (D i).2.2.2 b).toInt) (h2 : (qY (D i).2.2.2 a).toInt < (qY (D i).2.2.2 b).toInt + (qS (D i).2.2.2 b).toInt) :
    fn12_isPart N M 110 (nI i) (qX (D i).2.2.2 a) (qY (D i).2.2.2 a) (qX (D i).2.2.2 b + qS (D i).2.2.2 b) (qY (D i).2.2.2 b + qS (D i).2.2.2 b) = some (if mpB (D i).2.2.2 a b = true then 1 else 0, M) := by
  have hl := g.2.1
  have lo := m_pt1 (N := N) h hi g (qX (D i).2.2.2 a) (qY (D i).2.2.2 a) (qX (D i).2.2.2 b + qS (D i).2.2.2 b) (qY (D i).2.2.2 b + qS (D i).2.2.2 b) (D i).2.2.2.length 0 N (by omega) (by omega)
  obtain ⟨a1, a2, a3, a4, a5, a6, a7⟩ := geo_at g ha
  obtain ⟨b1, b2, b3, b4, b5, b6, b7⟩ := geo_at g hb
  have w1 := g.2.2.1
  have w2 := g.2.2.2.1
  rw [b6, b7] at lo
  have bd := arI_bd g (qX (D i).2.2.2 a).toInt (qY (D i).2.2.2 a).toInt ((qX (D i).2.2.2 b).toInt + (qS (D i).2.2.2 b).toInt) ((qY (D i).2.2.2 b).toInt + (qS (D i).2.2.2 b).toInt)
  have eq : (Int64.ofInt (arI (D i).2.2.2 (qX (D i).2.2.2 a).toInt (qY (D i).2.2.2 a).toInt ((qX (D i).2.2.2 b).toInt + (qS (D i).2.2.2 b).toInt) ((qY (D i).2.2.2 b).toInt + (qS (D i).2.2.2 b).toInt) (D i).2.2.2.length) = (qX (D i).2.2.2 b + qS (D i).2.2.2 b - qX (D i).2.2.2 a).toInt64 * (qY (D i).2.2.2 b + qS (D i).2.2.2 b - qY (D i).2.2.2 a).toInt64) ↔
      arI (D i).2.2.2 (qX (D i).2.2.2 a).toInt (qY (D i).2.2.2 a).toInt ((qX (D i).2.2.2 b).toInt + (qS (D i).2.2.2 b).toInt) ((qY (D i).2.2.2 b).toInt + (qS (D i).2.2.2 b).toInt) (D i).2.2.2.length = ((qX (D i).2.2.2 b).toInt + (qS (D i).2.2.2 b).toInt - (qX (D i).2.2.2 a).toInt) * ((qY (D i).2.2.2 b).toInt + (qS (D i).2.2.2 b).toInt - (qY (D i).2.2.2 a).toInt) := by
    rw [← Int64.toInt_inj, i64_mulT, i32_sub (by omega) (by omega), i32_sub (by omega) (by omega), b6, b7]
    revert bd
    generalize arI (D i).2.2.2 (qX (D i).2.2.2 a).toInt (qY (D i).2.2.2 a).toInt ((qX (D i).2.2.2 b).toInt + (qS (D i).2.2.2 b).toInt) ((qY (D i).2.2.2 b).toInt + (qS (D i).2.2.2 b).toInt) (D i).2.2.2.length = p
    intro bd
    rw [Int64.toInt_ofInt, Int.bmod_def, show (Int64.size : Int) = 18446744073709551616 from rfl]
    omega
  show fn12_isPart_b9 N N 110 (nI i) _ _ _ _ 0 0 0 M = _
  rw [show fn12_isPart_b9 N N 110 (nI i) (qX (D i).2.2.2 a) (qY (D i).2.2.2 a) (qX (D i).2.2.2 b + qS (D i).2.2.2 b) (qY (D i).2.2.2 b + qS (D i).2.2.2 b) 0 0 0 M = _ from lo]
  unfold mpB
  rw [decide_eq_true h1, decide_eq_true h2, Bool.true_and, Bool.true_and]
  simp only [eq, decide_eq_true_eq]
theorem m_pts1 {N : Nat} (hN : 100000 ≤ N) (h : ModI M m D) {i : Nat} (hi : i < m) {w y : Int} (g : Geo w y (D i).2.2.2) (K : Nat → Int32 → Int32 → Int32 → am_Mem → Option (Int32 × am_Mem)) {a S : Nat} (ha : a < (D i).2.2.2.length) : ∀ k j fuel, j + k = (D i).2.2.2.length → k < fuel → fn12_partsOf_b17 N K fuel 110 (nI i) (nI (S + cntU (fun b => decide (¬ a = b) && mpB (D i).2.2.2 a b) j)) (nI a) (nI j) M = K 110 (nI i) (nI (S + cntU (fun b => decide (¬ a = b) && mpB (D i).2.2.2 a b) (D i).2.2.2.length)) (nI (a + 1)) M := by
  have hl := g.2.1
  intro k
  induction k with
  | zero =>
    intro j fuel hj hf
    obtain ⟨f, rfl⟩ : ∃ f, fuel = f + 1 := ⟨fuel - 1, by omega⟩
    have : j = (D i).2.2.2.length := by omega
    subst this
    show fn12_partsOf_b17B N K (fn12_partsOf_b17 N K f) 110 (nI i) _ (nI a) (nI _) M = _
    unfold fn12_partsOf_b17B
    rw [kw_110 h, nk_ck, mw_n h hi, nk_bd, if_pos (nI_le (Nat.le_refl _) (by omega)), nI_1]
  | succ k ih =>
    intro j fuel hj hf
    obtain ⟨f, rfl⟩ : ∃ f, fuel = f + 1 := ⟨fuel - 1, by omega⟩
    have hj' : j < (D i).2.2.2.length := by omega
    have g1 := ih (j + 1) f (by omega) (by omega)
    rw [cntU] at g1
    obtain ⟨a1, a2, a3, a4, a5, a6, a7⟩ := geo_at g ha
    obtain ⟨b1, b2, b3, b4, b5, b6, b7⟩ := geo_at g hj'
    have hle : ¬ nI (D i).2.2.2.length ≤ nI j := nI_ge hj' (by omega)
    show fn12_partsOf_b17B N K (fn12_partsOf_b17 N K f) 110 (nI i) _ (nI a) (nI j) M = _
    unfold fn12_partsOf_b17B fn12_partsOf_b50 fn12_partsOf_b73 fn12_partsOf_b144 fn12_partsOf_b146
    simp only [kw_110 h, nk_ck, mw_n h hi, nk_bd, hle, if_false, mw_X h hi hj', mw_Y h hi hj', mw_S h hi hj', mw_X h hi ha, mw_Y h hi ha, nI_1, Int32.add_zero]
    by_cases e : a = j
    · subst e
      rw [if_pos rfl]
      rw [if_neg (by rw [decide_eq_false (fun h => h rfl), Bool.false_and]; decide)] at g1
      exact g1
    · rw [if_neg (fun x => e ((nI_eq (by omega) (by omega)).mp x))]
      rw [decide_eq_true e, Bool.true_and] at g1
      by_cases e1 : qX (D i).2.2.2 j + qS (D i).2.2.2 j ≤ qX (D i).2.2.2 a
      · rw [if_pos e1]
        rw [Int32.le_iff_toInt_le, b6] at e1
        rw [if_neg (by unfold mpB; rw [decide_eq_false (by omega)]; simp)] at g1
        exact g1
      · rw [if_neg e1]
        rw [Int32.le_iff_toInt_le, b6] at e1
        by_cases e2 : qY (D i).2.2.2 a < qY (D i).2.2.2 j + qS (D i).2.2.2 j
        · rw [if_pos e2]
          rw [Int32.lt_iff_toInt_lt, b7] at e2
          rw [m_part hN h hi g ha hj' (by omega) e2, nk_bd]
          by_cases e3 : mpB (D i).2.2.2 a j = true
          · rw [if_pos e3, if_neg z_1]
            rw [if_pos e3] at g1
            exact g1
          · rw [if_neg e3, if_pos rfl]
            rw [if_neg e3] at g1
            exact g1
        · rw [if_neg e2]
          rw [Int32.lt_iff_toInt_lt, b7] at e2
          rw [if_neg (by unfold mpB; rw [decide_eq_false e2]; simp)] at g1
          exact g1
theorem m_pts2 {N : Nat} (hN : 100000 ≤ N) (h : ModI M m D) {i : Nat} (hi : i < m) {w y : Int} (g : Geo w y (D i).2.2.2) : ∀ k j fuel, j + k = (D i).2.2.2.length → k < fuel → fn12_partsOf_b4 N fuel 110 (nI i) (nI (sumU (fun a => cntU (fun b => decide (¬ a = b) && mpB (D i).2.2.2 a b) (D i).2.2.2.length) j)) (nI j) M = some (nI (partsN (D i).2.2.2), M) := by
  have hl := g.2.1
  intro k
  induction k with
  | zero =>
    intro j fuel hj hf
    obtain ⟨f, rfl⟩ : ∃ f, fuel = f + 1 := ⟨fuel - 1, by omega⟩
    have : j = (D i).2.2.2.length := by omega
    subst this
    show fn12_partsOf_b4B N (fn12_partsOf_b4 N f) 110 (nI i) _ (nI _) M = _
    unfold fn12_partsOf_b4B
    rw [kw_110 h, nk_ck, mw_n h hi, nk_bd, if_pos (nI_le (Nat.le_refl _) (by omega)), parts_same g]
  | succ k ih =>
    intro j fuel hj hf
    obtain ⟨f, rfl⟩ : ∃ f, fuel = f + 1 := ⟨fuel - 1, by omega⟩
    have hj' : j < (D i).2.2.2.length := by omega
    have g1 := ih (j + 1) f (by omega) (by omega)
    rw [sumU] at g1
    have lo := m_pts1 hN h hi g (fn12_partsOf_b4 N f) (S := sumU (fun a => cntU (fun b => decide (¬ a = b) && mpB (D i).2.2.2 a b) (D i).2.2.2.length) j) hj' (D i).2.2.2.length 0 N (by omega) (by omega)
    show fn12_partsOf_b4B N (fn12_partsOf_b4 N f) 110 (nI i) _ (nI j) M = _
    unfold fn12_partsOf_b4B
    rw [kw_110 h, nk_ck, mw_n h hi, nk_bd, if_neg (nI_ge hj' (by omega)), show fn12_partsOf_b17 N (fn12_partsOf_b4 N f) N 110 (nI i) (nI (sumU (fun a => cntU (fun b => decide (¬ a = b) && mpB (D i).2.2.2 a b) (D i).2.2.2.length) j)) (nI j) 0 M = _ from lo]
    exact g1
theorem m_parts {N : Nat} (hN : 100000 ≤ N) (h : ModI M m D) {i : Nat} (hi : i < m) {w y : Int} (g : Geo w y (D i).2.2.2) : fn12_partsOf N M 110 (nI i) = some (nI (partsN (D i).2.2.2), M) := by
  have hl := g.2.1
  exact m_pts2 hN h hi g (D i).2.2.2.length 0 N (by omega) (by omega)
end
section
variable {M : am_Mem} {t : Nat} {q0 : Rc}
theorem cc_til (t0 : TilR M t q0) {u : Nat} {q : Rc} (h : TilR M u q) : TilR (am_wI M t 10 (nI (partsN q0.2.2.2))) u q := by
  obtain ⟨h1, ⟨i1, i4, i5, i6⟩, a7, a8, a9, x7, x8, x9⟩ := h
  have kt := t0.1.2.2
  have ne : ∀ {a n : Nat}, ArR M a n → ¬ a = t := fun ha e => by
    have := ha.2.2.1
    rw [e, kt] at this
    exact absurd this (by decide)
  have ix : ∀ i, ¬ i = 10 → am_I (am_wI M t 10 (nI (partsN q0.2.2.2))) u i = am_I M u i := fun i hi => by
    by_cases e : u = t
    · subst e; exact rI_ix _ _ _ hi
    · rw [rI_ne _ _ _ e]
  refine ⟨h1, ⟨?_, ?_, ?_, ?_⟩, a7, a8, a9, ?_, ?_, ?_⟩
  · rw [ix 1 (by decide)]; exact i1
  · rw [ix 4 (by decide)]; exact i4
  · rw [ix 5 (by decide)]; exact i5
  · rw [ix 6 (by decide)]; exact i6
  · rw [rR_wI, rI_ne _ _ _ (ne a7)]; exact x7
  · rw [rR_wI, rI_ne _ _ _ (ne a8)]; exact x8
  · rw [rR_wI, rI_ne _ _ _ (ne a9)]; exact x9
theorem cc_rec (t0 : TilR M t q0) {j told i : Nat} {q : Rc} (h : RecR M j told i q) : RecR (am_wI M t 10 (nI (partsN q0.2.2.2))) j told i q := by
  obtain ⟨h1, h2, h3, h4, h5, h6⟩ := h
  have ht := t0.1.1
  have kt := t0.1.2.2
  have ne : ∀ {a : Nat}, a ≤ 141 → ¬ a = t := fun ha e => by omega
  have ix : ∀ i', ¬ i' = 10 → am_I (am_wI M t 10 (nI (partsN q0.2.2.2))) (am_R M (105 + 2 * j) i) i' = am_I M (am_R M (105 + 2 * j) i) i' := fun i' hi => by
    by_cases e : am_R M (105 + 2 * j) i = t
    · rw [e]; exact rI_ix _ _ _ hi
    · rw [rI_ne _ _ _ e]
  have m141 : mA j ≤ 141 := by unfold mA; split <;> omega
  refine ⟨cc_til t0 h1, ?_, h3, ?_, fun hi => ?_, fun hi => ?_⟩
  · exact rowr_fr (good_len h3) (fun k _ => by rw [rI_ne _ _ _ (ne m141)]) h2
  · unfold CchR at h4 ⊢
    rw [rR_wI]
    by_cases e : am_R M (105 + 2 * j) i = t
    · rw [e, rI_eq]
      rw [e] at h1
      rw [tilr_uniq h1 t0]
      exact Or.inr rfl
    · rw [rI_ne _ _ _ e]; exact h4
  · obtain ⟨a, b⟩ := h5 hi
    unfold ToldR
    rw [rR_wI, ix 0 (by decide), ix 2 (by decide), rI_ne _ _ _ (ne (a := 121) (by omega)), rI_ne _ _ _ (ne (a := 125) (by omega))]
    refine ⟨a, ?_⟩
    rcases b with b | ⟨b, c⟩
    · exact Or.inl b
    · refine Or.inr ⟨b, ?_⟩
      obtain ⟨⟨n1, n2, n3⟩, n4, n5, n6, p, m, n7, n8, n9, n10, n11, n12, n13, n14, n15⟩ := c
      have nt : ¬ am_R M (am_R M (105 + 2 * j) i) 3 = t := fun e => by rw [e, kt] at n3; exact absurd n3 (by decide)
      have nr : ∀ {a n : Nat}, ArR M a n → ¬ a = t := fun ha e => by
        have := ha.2.2.1
        rw [e, kt] at this
        exact absurd this (by decide)
      refine ⟨⟨n1, n2, n3⟩, n4, n5, ?_, p, m, n7, n8, ?_, ?_, ?_, ?_, n13, n14, ?_⟩
      · rw [rI_ne _ _ _ nt, rI_ne _ _ _ (ne (a := 126) (by omega))]; exact n6
      · rw [rI_ne _ _ _ nt]; exact n9
      · rw [rI_ne _ _ _ nt]; exact n10
      · rw [rI_ne _ _ _ (ne (a := 122) (by omega))]; exact n11
      · rw [rI_ne _ _ _ (ne (a := 123) (by omega))]; exact n12
      · rw [rR_wI, rJ_wI, rI_ne _ _ _ (nr n13), rI_ne _ _ _ (nr n14)]; exact n15
  · rw [rR_wI, ix 0 (by decide)]
    exact h6 hi
theorem cc_sh (t0 : TilR M t q0) {j told m : Nat} {D : Nat → Rc} (hj : j ≤ 2) (h : ShR M j told m D) : ShR (am_wI M t 10 (nI (partsN q0.2.2.2))) j told m D := by
  have ht := t0.1.1
  exact ⟨h.1, h.2.1, by rw [rI_ne _ _ _ (by omega)]; exact h.2.2.1, fun i hi => cc_rec t0 (h.2.2.2 i hi)⟩
theorem cc_kep (t0 : TilR M t q0) {j told : Nat} (hj : j ≤ 2) (h : KepR M j told) : KepR (am_wI M t 10 (nI (partsN q0.2.2.2))) j told := by
  have ht := t0.1.1
  unfold KepR
  rw [rI_ne _ _ _ (show ¬ 104 + 2 * j = t by omega), rI_ne _ _ _ (show ¬ 120 = t by omega), rI_ne _ _ _ (show ¬ 119 = t by omega)]
  rcases h with h | ⟨a, b, m, D, c, d⟩
  · exact Or.inl h
  · exact Or.inr ⟨a, b, m, D, cc_sh t0 hj c, d⟩
theorem inv_cch {told m : Nat} {D : Nat → Rc} (t0 : TilR M t q0) (h : InvAt M told m D) : InvAt (am_wI M t 10 (nI (partsN q0.2.2.2))) told m D := by
  have ht := t0.1.1
  have ne : ∀ {a : Nat}, a ≤ 141 → am_I (am_wI M t 10 (nI (partsN q0.2.2.2))) a = am_I M a := fun ha => rI_ne _ _ _ (by omega)
  obtain ⟨s, tap, pag, lin, ⟨u, u1, u2, u3⟩, t6, g40, g18, sh, k1, k2⟩ := h
  refine ⟨s, tapr_fr (by rw [ne (by omega)]) (by rw [ne (by omega)]) (ne (by omega)) (ne (by omega)) tap, pagr_fr (by rw [ne (by omega)]) (by rw [ne (by omega)]) (ne (by omega)) (ne (by omega)) pag, ?_, ⟨u, u1, by rw [ne (by omega)]; exact u2, by rw [ne (by omega)]; exact u3⟩, t6, by rw [ne (by omega)]; exact g40, by rw [ne (by omega)]; exact g18, cc_sh t0 (by omega) sh, cc_kep t0 (by omega) k1, cc_kep t0 (by omega) k2⟩
  intro h0
  obtain ⟨q, a, b⟩ := lin h0
  exact ⟨q, cc_til t0 a, ltr_fr (by rw [ne (by omega)]) (ne (by omega)) (ne (by omega)) (ne (by omega)) (ne (by omega)) b⟩
end
theorem ok_rect {N : Nat} (hN : 100000 ≤ N) : OK_rect N Inv := by
  intro M x y ⟨told, m, D, h⟩
  have h' := inv_thr h 0
  have s := i_shp h
  have hm := i_m h
  have wi : ∀ M', fn12_within M' y.toInt64 0 7 = some (if 0 ≤ y ∧ y ≤ 7 then 1 else 0, M') := fun M' => wi_lit M' y 0 7
  have fin : ∀ v, fn11_rect N M 1 x y = some (v, M) → fn12_rect N M 110 x y = some (v, am_wI M 110 0 0) → ∃ (v : Int32) (M1 M2 : am_Mem), fn11_rect N M 1 x y = some (v, M1) ∧ am_K M1 110 = 12 ∧ fn12_rect N M1 110 x y = some (v, M2) ∧ Inv M2 :=
    fun v a b => ⟨v, M, am_wI M 110 0 0, a, sk110 s, b, told, m, D, h'⟩
  rcases pk_ix2 x (n := m) (by omega) with hx | ⟨i, hi, rfl⟩
  · refine fin (-1) ?_ ?_
    · unfold fn11_rect fn11_rect_b0 fn11_rect_b23
      rw [cf_no h hx]
      rfl
    · unfold fn12_rect fn12_rect_b0 fn12_rect_b25
      rw [k_110 h, mi_no h' hx]
      rfl
  have t := i_til h hi
  have hl := i_len h hi
  by_cases hy : ¬ (0 ≤ y ∧ y ≤ 7)
  · refine fin (-1) ?_ ?_
    · unfold fn11_rect fn11_rect_b0 fn11_rect_b23
      rw [cf_yes h hi, if_neg (tilr_ne t)]
      by_cases y0 : y < 0
      · rw [if_pos y0]
      · rw [if_neg y0, if_neg (fun e => hy ⟨Int32.not_lt.mp y0, e⟩)]
    · unfold fn12_rect fn12_rect_b0 fn12_rect_b25
      rw [k_110 h, nk_ck, mi_yes h' hi, nk_bd, if_neg z_1, wi, nk_bd, if_neg hy, if_pos rfl]
  have hy := Decidable.not_not.mp hy
  by_cases y7 : y = 7
  · refine fin (am_I M (am_R M 105 i) 0) ?_ ?_
    · unfold fn11_rect fn11_rect_b0
      rw [cf_yes h hi, if_neg (tilr_ne t), if_neg (Int32.not_lt.mpr hy.1), if_pos hy.2, if_pos y7, k_til t, nk_ck]
    · unfold fn12_rect fn12_rect_b0
      rw [k_110 h, nk_ck, mi_yes h' hi, nk_bd, if_neg z_1, wi, nk_bd, if_pos hy, if_neg z_1, if_pos y7, k_110w h, nk_ck, mv_kind h' hi, nk_bd, rR_wI, rI_ne M 0 0 (by have := t.1.1; omega)]
  have hc : ∀ {α : Type} (a b : α), (if y = 7 then a else b) = b := fun a b => if_neg y7
  rcases good_f (i_good h hi) with ⟨a, b⟩ | ⟨a, geo⟩
  · refine fin (-2) ?_ ?_
    · unfold fn11_rect fn11_rect_b0
      rw [cf_yes h hi, if_neg (tilr_ne t), if_neg (Int32.not_lt.mpr hy.1), if_pos hy.2, if_neg y7, k_til t, nk_ck, t.2.1.1, a]
      rfl
    · unfold fn12_rect fn12_rect_b0
      rw [k_110 h, nk_ck, mi_yes h' hi, nk_bd, if_neg z_1, wi, nk_bd, if_pos hy, if_neg z_1, if_neg y7, k_110w h, nk_ck, mv_fail h' hi, nk_bd, a]
      rfl
  have hp := partsN_le (D i).2.2.2 hl
  obtain ⟨Mp, ep, cp⟩ := c_parts hN t hl (i_rec h hi).2.2.2.1
  have hMp : InvAt Mp told m D := by
    rcases cp with e | e
    · rw [e]; exact h
    · rw [e]; exact inv_cch t h
  have hMp' := inv_thr hMp 0
  have ce : fn11_rect N M 1 (nI i) y = (if y = 0 then some (nI (D i).2.2.2.length, M) else if y = 1 then some ((D i).2.1, M) else if y = 2 then some ((D i).2.2.1, M) else if y = 3 then some (if pfV (D i).2.2.2 = 0 then 0 else 1, M) else if y = 4 then some (if nI (partsN (D i).2.2.2) = 0 then 1 else 0, Mp) else if y = 5 then some (nI (partsN (D i).2.2.2), Mp) else some (nI (crN (D i).2.2.2), M)) := by
    unfold fn11_rect fn11_rect_b0 fn11_rect_b111 fn11_rect_b124 fn10_crosses fn10_crosses_b0
    rw [cf_yes h hi, if_neg (tilr_ne t), if_neg (Int32.not_lt.mpr hy.1), if_pos hy.2, if_neg y7, k_til t, nk_ck, t.2.1.1, a, if_pos rfl, t.2.1.2.1, t.2.1.2.2.1, t.2.1.2.2.2, c_pf hN t hl, ep, nk_bd, nk_bd, nk_bd, show fn10_crosses_b4 N N (am_R M 105 i) 0 0 M = _ from c_cr hN t hl (D i).2.2.2.length 0 N (by omega) (by omega), nk_bd]
    congr 4
    · by_cases e : pfV (D i).2.2.2 = 0
      · rw [if_pos e, if_pos e]
      · rw [if_neg e, if_neg e]
    · by_cases e : nI (partsN (D i).2.2.2) = 0
      · rw [if_pos e, if_pos e]
      · rw [if_neg e, if_neg e]
  have me : ∀ {M' : am_Mem}, InvAt M' told m D → fn12_rect N M' 110 (nI i) y = (if y = 0 then some (nI (D i).2.2.2.length, am_wI M' 110 0 0) else if y = 1 then some ((D i).2.1, am_wI M' 110 0 0) else if y = 2 then some ((D i).2.2.1, am_wI M' 110 0 0) else if y = 3 then some (if pfV (D i).2.2.2 = 0 then 0 else 1, am_wI M' 110 0 0) else if y = 4 then some (if nI (partsN (D i).2.2.2) = 0 then 1 else 0, am_wI M' 110 0 0) else if y = 5 then some (nI (partsN (D i).2.2.2), am_wI M' 110 0 0) else some (nI (crN (D i).2.2.2), am_wI M' 110 0 0)) := by
    intro M' k
    have k' := inv_thr k 0
    unfold fn12_rect fn12_rect_b0 fn12_rect_b122 fn12_rect_b136 fn12_crossesOf fn12_crossesOf_b0
    rw [k_110 k, nk_ck, mi_yes k' hi, nk_bd, if_neg z_1, wi, nk_bd, if_pos hy, if_neg z_1, if_neg y7, k_110w k, nk_ck, mv_fail k' hi, nk_bd, a, if_pos rfl, k_110w k, nk_ck, nk_ck, nk_ck, nk_ck, nk_ck, nk_ck, nk_ck, mv_n k' hi, mv_w k' hi, mv_h k' hi, m_pf hN k' hi, m_parts hN (modI_inv k') hi geo, show fn12_crossesOf_b4 N N 110 (nI i) 0 0 (am_wI M' 110 0 0) = _ from m_cr hN k' hi (D i).2.2.2.length 0 N (by omega) (by omega), nk_bd, nk_bd, nk_bd, nk_bd, nk_bd, nk_bd, nk_bd]
    congr 4
    · by_cases e : pfV (D i).2.2.2 = 0
      · rw [if_pos e, if_pos e]
      · rw [if_neg e, if_neg e]
    · by_cases e : nI (partsN (D i).2.2.2) = 0
      · rw [if_pos e, if_pos e]
      · rw [if_neg e, if_neg e]
  have em := me h
  have emp := me hMp
  have finp : ∀ v, fn11_rect N M 1 (nI i) y = some (v, Mp) → fn12_rect N Mp 110 (nI i) y = some (v, am_wI Mp 110 0 0) → ∃ (v : Int32) (M1 M2 : am_Mem), fn11_rect N M 1 (nI i) y = some (v, M1) ∧ am_K M1 110 = 12 ∧ fn12_rect N M1 110 (nI i) y = some (v, M2) ∧ Inv M2 :=
    fun v a b => ⟨v, Mp, am_wI Mp 110 0 0, a, sk110 (i_shp hMp), b, told, m, D, hMp'⟩
  by_cases y0 : y = 0
  · exact fin _ (by rw [ce, if_pos y0]) (by rw [em, if_pos y0])
  rw [if_neg y0] at ce em emp
  by_cases y1 : y = 1
  · exact fin _ (by rw [ce, if_pos y1]) (by rw [em, if_pos y1])
  rw [if_neg y1] at ce em emp
  by_cases y2 : y = 2
  · exact fin _ (by rw [ce, if_pos y2]) (by rw [em, if_pos y2])
  rw [if_neg y2] at ce em emp
  by_cases y3 : y = 3
  · exact fin _ (by rw [ce, if_pos y3]) (by rw [em, if_pos y3])
  rw [if_neg y3] at ce em emp
  by_cases y4 : y = 4
  · exact finp _ (by rw [ce, if_pos y4]) (by rw [emp, if_pos y4])
  rw [if_neg y4] at ce em emp
  by_cases y5 : y = 5
  · exact finp _ (by rw [ce, if_pos y5]) (by rw [emp, if_pos y5])
  rw [if_neg y5] at ce em emp
  exact fin _ ce em
