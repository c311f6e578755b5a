def pfB (L : List Sq) : Bool := anyU (fun a => anyU (fun b => decide (qS L a = qS L b)) (a + 1) (L.length - (a + 1))) 0 L.length
def pfV (L : List Sq) : Int32 := if pfB L = true then 0 else if 2 ≤ L.length then 1 else 0
theorem pfV_01 (L : List Sq) : pfV L = 0 ∨ pfV L = 1 := by
  unfold pfV
  split
  · exact Or.inl rfl
  · split
    · exact Or.inr rfl
    · exact Or.inl rfl
theorem c_pf1 {N : Nat} {M : am_Mem} {t : Nat} {q : Rc} (h : TilR M t q) (hl : q.2.2.2.length ≤ 40) (K : Nat → Int32 → am_Mem → Option (Int32 × am_Mem)) {a : Nat} (ha : a < q.2.2.2.length) : ∀ k j fuel, j + k = q.2.2.2.length → k < fuel → fn10_isPerfect_b14 N K fuel t (nI a) (nI j) M = if anyU (fun b => decide (qS q.2.2.2 a = qS q.2.2.2 b)) j k = true then some (0, M) else K t (nI (a + 1)) M := by
  obtain ⟨tK, ⟨tf, t4, t5, t6⟩, ⟨_, _, k7, l7⟩, ⟨_, _, k8, l8⟩, ⟨_, _, k9, l9⟩, x7, x8, x9⟩ := h
  intro k
  induction k with
  | zero =>
    intro j fuel hj hf
    obtain ⟨f, rfl⟩ : ∃ f, fuel = f + 1 := ⟨fuel - 1, by omega⟩
    show fn10_isPerfect_b14B N K (fn10_isPerfect_b14 N K f) t (nI a) (nI j) M = _
    unfold fn10_isPerfect_b14B anyU
    rw [nk_k, tK.2.2, t4, if_pos (nI_le (by omega) (by omega)), nI_1]
    rfl
  | succ k ih =>
    intro j fuel hj hf
    obtain ⟨f, rfl⟩ : ∃ f, fuel = f + 1 := ⟨fuel - 1, by omega⟩
    show fn10_isPerfect_b14B N K (fn10_isPerfect_b14 N K f) t (nI a) (nI j) M = _
    unfold fn10_isPerfect_b14B anyU
    rw [nk_k, tK.2.2, t4, if_neg (nI_ge (by omega) (by omega)), nk_k, k9, l9, nk_in ha (by omega), nk_in (by omega) (by omega), nI_clamp (by omega), nI_clamp (by omega), x9 a ha, x9 j (by omega), nI_1, nk_dd, nk_dd, nk_ck, nk_ck, ih (j + 1) f (by omega) (by omega)]
    by_cases hc : qS q.2.2.2 a = qS q.2.2.2 j
    · rw [if_pos hc, decide_eq_true hc]; rfl
    · rw [if_neg hc, decide_eq_false hc, Bool.false_or]
theorem c_pf2 {N : Nat} (hN : 100000 ≤ N) {M : am_Mem} {t : Nat} {q : Rc} (h : TilR M t q) (hl : q.2.2.2.length ≤ 40) : ∀ k j fuel, j + k = q.2.2.2.length → k < fuel → fn10_isPerfect_b2 N fuel t (nI j) M = some (if anyU (fun a => anyU (fun b => decide (qS q.2.2.2 a = qS q.2.2.2 b)) (a + 1) (q.2.2.2.length - (a + 1))) j k = true then 0 else if 2 ≤ q.2.2.2.length then 1 else 0, M) := by
  intro k
  induction k with
  | zero =>
    intro j fuel hj hf
    obtain ⟨f, rfl⟩ : ∃ f, fuel = f + 1 := ⟨fuel - 1, by omega⟩
    show fn10_isPerfect_b2B N (fn10_isPerfect_b2 N f) t (nI j) M = _
    unfold fn10_isPerfect_b2B anyU fn10_isPerfect_b64
    rw [k_til h, nk_ck, h.2.1.2.1, if_pos (nI_le (by omega) (by omega))]
    by_cases h2 : 2 ≤ q.2.2.2.length
    · rw [if_neg (show ¬ nI q.2.2.2.length < 2 from nI_nlt (b := 2) h2 (by omega)), if_pos h2]; rfl
    · rw [if_pos (show nI q.2.2.2.length < 2 from nI_lt (b := 2) (by omega) (by omega)), if_neg h2]; rfl
  | succ k ih =>
    intro j fuel hj hf
    obtain ⟨f, rfl⟩ : ∃ f, fuel = f + 1 := ⟨fuel - 1, by omega⟩
    show fn10_isPerfect_b2B N (fn10_isPerfect_b2 N f) t (nI j) M = _
    unfold fn10_isPerfect_b2B anyU
    rw [k_til h, nk_ck, h.2.1.2.1, if_neg (nI_ge (by omega) (by omega)), nI_1, c_pf1 h hl _ (by omega) (q.2.2.2.length - (j + 1)) (j + 1) N (by omega) (by omega), ih (j + 1) f (by omega) (by omega)]
    by_cases hc : anyU (fun b => decide (qS q.2.2.2 j = qS q.2.2.2 b)) (j + 1) (q.2.2.2.length - (j + 1)) = true
    · rw [if_pos hc, hc]; rfl
    · rw [if_neg hc, Bool.eq_false_iff.mpr hc, Bool.false_or]
theorem c_pf {N : Nat} (hN : 100000 ≤ N) {M : am_Mem} {t : Nat} {q : Rc} (h : TilR M t q) (hl : q.2.2.2.length ≤ 40) : fn10_isPerfect N M t = some (pfV q.2.2.2, M) :=
  c_pf2 hN h hl q.2.2.2.length 0 N (by omega) (by omega)
theorem m_pf1 {N : Nat} {M : am_Mem} {told m : Nat} {D : Nat → Rc} (h : InvAt M told m D) {i : Nat} (hi : i < m) (K : Nat → Int32 → Int32 → Int32 → am_Mem → Option (Int32 × am_Mem)) {y : Int32} {a : Nat} (ha : a < (D i).2.2.2.length) : ∀ k j fuel, j + k = a → k < fuel → fn12_arePerfect_b17 N K fuel 110 (nI i) y (nI a) (nI j) M = if anyU (fun b => decide (qS (D i).2.2.2 a = qS (D i).2.2.2 b)) j k = true then some (0, M) else K 110 (nI i) y (nI (a + 1)) M := by
  have hl := i_len h hi
  intro k
  induction k with
  | zero =>
    intro j fuel hj hf
    obtain ⟨f, rfl⟩ : ∃ f, fuel = f + 1 := ⟨fuel - 1, by omega⟩
    show fn12_arePerfect_b17B N K (fn12_arePerfect_b17 N K f) 110 (nI i) y (nI a) (nI j) M = _
    unfold fn12_arePerfect_b17B anyU
    rw [if_pos (nI_le (by omega) (by omega)), nI_1]
    rfl
  | succ k ih =>
    intro j fuel hj hf
    obtain ⟨f, rfl⟩ : ∃ f, fuel = f + 1 := ⟨fuel - 1, by omega⟩
    show fn12_arePerfect_b17B N K (fn12_arePerfect_b17 N K f) 110 (nI i) y (nI a) (nI j) M = _
    unfold fn12_arePerfect_b17B anyU
    rw [if_neg (nI_ge (by omega) (by omega)), k_110 h, nk_ck, mv_S h hi ha, nk_bd, k_110 h, nk_ck, mv_S h hi (by omega), nk_bd, nI_1, ih (j + 1) f (by omega) (by omega)]
    by_cases hc : qS (D i).2.2.2 a = qS (D i).2.2.2 j
    · rw [if_pos hc, decide_eq_true hc]; rfl
    · rw [if_neg hc, decide_eq_false hc, Bool.false_or]
theorem m_pf2 {N : Nat} (hN : 100000 ≤ N) {M : am_Mem} {told m : Nat} {D : Nat → Rc} (h : InvAt M told m D) {i : Nat} (hi : i < m) : ∀ k j fuel, j + k = (D i).2.2.2.length → k < fuel → fn12_arePerfect_b9 N fuel 110 (nI i) (nI (D i).2.2.2.length) (nI j) M = some (if anyU (fun a => anyU (fun b => decide (qS (D i).2.2.2 a = qS (D i).2.2.2 b)) 0 a) j k = true then 0 else if 2 ≤ (D i).2.2.2.length then 1 else 0, M) := by
  have hl := i_len h hi
  intro k
  induction k with
  | zero =>
    intro j fuel hj hf
    obtain ⟨f, rfl⟩ : ∃ f, fuel = f + 1 := ⟨fuel - 1, by omega⟩
    show fn12_arePerfect_b9B N (fn12_arePerfect_b9 N f) 110 (nI i) _ (nI j) M = _
    unfold fn12_arePerfect_b9B anyU fn12_arePerfect_b69
    rw [if_pos (nI_le (by omega) (by omega))]
    by_cases h2 : 2 ≤ (D i).2.2.2.length
    · rw [if_neg (show ¬ nI (D i).2.2.2.length ≤ 1 from nI_ge (a := 1) (by omega) (by omega)), if_pos h2]; rfl
    · rw [if_pos (show nI (D i).2.2.2.length ≤ 1 from nI_le (b := 1) (by omega) (by omega)), if_neg h2]; rfl
  | succ k ih =>
    intro j fuel hj hf
    obtain ⟨f, rfl⟩ : ∃ f, fuel = f + 1 := ⟨fuel - 1, by omega⟩
    show fn12_arePerfect_b9B N (fn12_arePerfect_b9 N f) 110 (nI i) _ (nI j) M = _
    unfold fn12_arePerfect_b9B anyU
    have g := m_pf1 (N := N) h hi (fn12_arePerfect_b9 N f) (y := nI (D i).2.2.2.length) (a := j) (by omega) j 0 N (by omega) (by omega)
    rw [if_neg (nI_ge (by omega) (by omega)), show fn12_arePerfect_b17 N (fn12_arePerfect_b9 N f) N 110 (nI i) (nI (D i).2.2.2.length) (nI j) 0 M = _ from g, ih (j + 1) f (by omega) (by omega)]
    by_cases hc : anyU (fun b => decide (qS (D i).2.2.2 j = qS (D i).2.2.2 b)) 0 j = true
    · rw [if_pos hc, hc]; rfl
    · rw [if_neg hc, Bool.eq_false_iff.mpr hc, Bool.false_or]
theorem pf_same (L : List Sq) : anyU (fun a => anyU (fun b => decide (qS L a = qS L b)) 0 a) 0 L.length = pfB L := by
  rw [Bool.eq_iff_iff]
  unfold pfB
  rw [anyU_iff, anyU_iff]
  constructor
  · rintro ⟨a, h1, h2, h3⟩
    rw [anyU_iff] at h3
    obtain ⟨b, g1, g2, g3⟩ := h3
    refine ⟨b, by omega, by omega, ?_⟩
    rw [anyU_iff]
    exact ⟨a, by omega, by omega, decide_eq_true (of_decide_eq_true g3).symm⟩
  · rintro ⟨a, h1, h2, h3⟩
    rw [anyU_iff] at h3
    obtain ⟨b, g1, g2, g3⟩ := h3
    refine ⟨b, by omega, by omega, ?_⟩
    rw [anyU_iff]
    exact ⟨a, by omega, by omega, decide_eq_true (of_decide_eq_true g3).symm⟩
theorem m_pf {N : Nat} (hN : 100000 ≤ N) {M : am_Mem} {told m : Nat} {D : Nat → Rc} (h : InvAt M told m D) {i : Nat} (hi : i < m) : fn12_arePerfect N M 110 (nI i) = some (pfV (D i).2.2.2, M) := by
  have hl := i_len h hi
  have g := m_pf2 hN h hi (D i).2.2.2.length 0 N (by omega) (by omega)
  unfold fn12_arePerfect fn12_arePerfect_b0
  rw [k_110 h, nk_ck, mv_n h hi, nk_bd]
  unfold pfV
  rw [← pf_same]
  exact g
/-- a corner of a square there -/
def coB (L : List Sq) (x y : Int32) (k : Nat) : Bool := (decide (qX L k = x) || decide (qX L k + qS L k = x)) && (decide (qY L k = y) || decide (qY L k + qS L k = y))
def crN (L : List Sq) : Nat := cntU (fun k => decide (cntU (coB L (qX L k) (qY L k)) L.length = 4)) L.length
theorem c_co {N : Nat} {M : am_Mem} {t : Nat} {q : Rc} (h : TilR M t q) (hl : q.2.2.2.length ≤ 40) (x y : Int32) : ∀ k j fuel, j + k = q.2.2.2.length → k < fuel → fn10_cornersAt_b5 N fuel t x y (nI (cntU (coB q.2.2.2 x y) j)) (nI j) M = some (nI (cntU (coB q.2.2.2 x y) q.2.2.2.length), M) := by
  have hr : ∀ j, j < q.2.2.2.length → fn10_right M t (nI j) = some (qX q.2.2.2 j + qS q.2.2.2 j, M) := fun j hj => c_right h hl hj
  have hb : ∀ j, j < q.2.2.2.length → fn10_bottom M t (nI j) = some (qY q.2.2.2 j + qS q.2.2.2 j, M) := fun j hj => c_bottom h hl hj
  obtain ⟨tK, ⟨tf, t4, t5, t6⟩, ⟨_, _, k7, l7⟩, ⟨_, _, k8, l8⟩, ⟨_, _, k9, l9⟩, x7, x8, x9⟩ := h
  intro k
  induction k with
  | zero =>
    intro j fuel hj hf
    obtain ⟨f, rfl⟩ : ∃ f, fuel = f + 1 := ⟨fuel - 1, by omega⟩
    have : j = q.2.2.2.length := by omega
    show fn10_cornersAt_b5B N (fn10_cornersAt_b5 N f) t x y _ (nI j) M = _
    unfold fn10_cornersAt_b5B
    rw [nk_k, tK.2.2, nk_dd, t4, if_pos (nI_le (by omega) (by omega)), this]
  | succ k ih =>
    intro j fuel hj hf
    obtain ⟨f, rfl⟩ : ∃ f, fuel = f + 1 := ⟨fuel - 1, by omega⟩
    have g := ih (j + 1) f (by omega) (by omega)
    rw [cntU] at g
    have bx : (if coB q.2.2.2 x y j = true then 1 else 0) = if (qX q.2.2.2 j = x ∨ qX q.2.2.2 j + qS q.2.2.2 j = x) ∧ (qY q.2.2.2 j = y ∨ qY q.2.2.2 j + qS q.2.2.2 j = y) then 1 else 0 := by
      unfold coB
      simp only [Bool.and_eq_true, Bool.or_eq_true, decide_eq_true_eq]
    rw [bx] at g
    show fn10_cornersAt_b5B N (fn10_cornersAt_b5 N f) t x y _ (nI j) M = _
    unfold fn10_cornersAt_b5B fn10_cornersAt_b35 fn10_cornersAt_b40 fn10_cornersAt_b63 fn10_cornersAt_b68 fn10_cornersAt_b85 fn10_cornersAt_b86 fn10_cornersAt_b88
    rw [nk_k, tK.2.2, nk_dd, t4, if_neg (nI_ge (by omega) (by omega)), nk_k, k7, l7, nk_in (by omega) (by omega), nI_clamp (by omega), x7 j (by omega), hr j (by omega), nk_bd, nk_dd, nk_ck, nk_k, nk_k, k8, l8, tK.2.2, nk_in (by omega) (by omega), x8 j (by omega), hb j (by omega), nk_bd]
    simp only [eq_self, decide_true, nk_ck, nk_bd, z_1, if_false, if_true, nI_1, Int32.add_zero]
    by_cases h1 : qX q.2.2.2 j = x ∨ qX q.2.2.2 j + qS q.2.2.2 j = x
    · by_cases h2 : qY q.2.2.2 j = y ∨ qY q.2.2.2 j + qS q.2.2.2 j = y
      · rw [if_pos ⟨h1, h2⟩] at g
        by_cases a1 : qX q.2.2.2 j = x
        · rw [if_pos a1]
          by_cases b1 : qY q.2.2.2 j = y
          · rw [if_pos b1]; exact g
          · rw [if_neg b1, if_pos (h2.resolve_left b1)]; exact g
        · rw [if_neg a1, if_pos (h1.resolve_left a1)]
          by_cases b1 : qY q.2.2.2 j = y
          · rw [if_pos b1]; exact g
          · rw [if_neg b1, if_pos (h2.resolve_left b1)]; exact g
      · rw [if_neg (fun e => h2 e.2)] at g
        have b1 : ¬ qY q.2.2.2 j = y := fun e => h2 (Or.inl e)
        have b2 : ¬ qY q.2.2.2 j + qS q.2.2.2 j = y := fun e => h2 (Or.inr e)
        rw [if_neg b1, if_neg b2]
        by_cases a1 : qX q.2.2.2 j = x
        · rw [if_pos a1]; exact g
        · rw [if_neg a1, if_pos (h1.resolve_left a1)]; exact g
    · rw [if_neg (fun e => h1 e.1)] at g
      have b1 : ¬ qX q.2.2.2 j = x := fun e => h1 (Or.inl e)
      have b2 : ¬ qX q.2.2.2 j + qS q.2.2.2 j = x := fun e => h1 (Or.inr e)
      rw [if_neg b1, if_neg b2]
      by_cases a1 : qY q.2.2.2 j = y
      · rw [if_pos a1]; exact g
      · rw [if_neg a1]
        by_cases a2 : qY q.2.2.2 j + qS q.2.2.2 j = y
        · rw [if_pos a2]; exact g
        · rw [if_neg a2]; exact g
theorem m_co {N : Nat} {M : am_Mem} {told m : Nat} {D : Nat → Rc} (h : InvAt M told m D) {i : Nat} (hi : i < m) (x y : Int32) : ∀ k j fuel, j + k = (D i).2.2.2.length → k < fuel → fn12_corners_b6 N fuel 110 (nI i) x y (nI (cntU (coB (D i).2.2.2 x y) j)) (nI j) M = some (nI (cntU (coB (D i).2.2.2 x y) (D i).2.2.2.length), M) := by
  have hl := i_len h hi
  intro k
  induction k with
  | zero =>
    intro j fuel hj hf
    obtain ⟨f, rfl⟩ : ∃ f, fuel = f + 1 := ⟨fuel - 1, by omega⟩
    have : j = (D i).2.2.2.length := by omega
    show fn12_corners_b6B N (fn12_corners_b6 N f) 110 (nI i) x y _ (nI j) M = _
    unfold fn12_corners_b6B
    rw [k_110 h, nk_ck, mv_n h hi, nk_bd, if_pos (nI_le (by omega) (by omega)), this]
  | succ k ih =>
    intro j fuel hj hf
    obtain ⟨f, rfl⟩ : ∃ f, fuel = f + 1 := ⟨fuel - 1, by omega⟩
    have g := ih (j + 1) f (by omega) (by omega)
    rw [cntU] at g
    have bx : (if coB (D i).2.2.2 x y j = true then 1 else 0) = if (x = qX (D i).2.2.2 j ∨ x = qX (D i).2.2.2 j + qS (D i).2.2.2 j) ∧ (y = qY (D i).2.2.2 j ∨ y = qY (D i).2.2.2 j + qS (D i).2.2.2 j) then 1 else 0 := by
      unfold coB
      refine ite_congr (propext ?_) (fun _ => rfl) (fun _ => rfl)
      rw [Bool.and_eq_true, Bool.or_eq_true, Bool.or_eq_true, decide_eq_true_eq, decide_eq_true_eq, decide_eq_true_eq, decide_eq_true_eq]
      exact ⟨fun ⟨a, b⟩ => ⟨a.imp Eq.symm Eq.symm, b.imp Eq.symm Eq.symm⟩, fun ⟨a, b⟩ => ⟨a.imp Eq.symm Eq.symm, b.imp Eq.symm Eq.symm⟩⟩
    rw [bx] at g
    show fn12_corners_b6B N (fn12_corners_b6 N f) 110 (nI i) x y _ (nI j) M = _
    unfold fn12_corners_b6B fn12_corners_b54 fn12_corners_b59 fn12_corners_b107 fn12_corners_b111 fn12_corners_b112 fn12_corners_b115
    have hj' : j < (D i).2.2.2.length := by omega
    have hle : ¬ nI (D i).2.2.2.length ≤ nI j := nI_ge hj' (by omega)
    simp only [k_110 h, nk_ck, mv_n h hi, nk_bd, hle, if_false, mv_X h hi hj', mv_Y h hi hj', mv_S h hi hj', z_1, if_true, nI_1, Int32.add_zero]
    by_cases h1 : x = qX (D i).2.2.2 j ∨ x = qX (D i).2.2.2 j + qS (D i).2.2.2 j
    · by_cases h2 : y = qY (D i).2.2.2 j ∨ y = qY (D i).2.2.2 j + qS (D i).2.2.2 j
      · rw [if_pos ⟨h1, h2⟩] at g
        by_cases a1 : x = qX (D i).2.2.2 j
        · rw [if_pos a1]
          by_cases b1 : y = qY (D i).2.2.2 j
          · rw [if_pos b1]; exact g
          · rw [if_neg b1, if_pos (h2.resolve_left b1)]; exact g
        · rw [if_neg a1, if_pos (h1.resolve_left a1)]
          by_cases b1 : y = qY (D i).2.2.2 j
          · rw [if_pos b1]; exact g
          · rw [if_neg b1, if_pos (h2.resolve_left b1)]; exact g
      · rw [if_neg (fun e => h2 e.2)] at g
        have b1 : ¬ y = qY (D i).2.2.2 j := fun e => h2 (Or.inl e)
        have b2 : ¬ y = qY (D i).2.2.2 j + qS (D i).2.2.2 j := fun e => h2 (Or.inr e)
        rw [if_neg b1, if_neg b2]
        by_cases a1 : x = qX (D i).2.2.2 j
        · rw [if_pos a1]; exact g
        · rw [if_neg a1, if_pos (h1.resolve_left a1)]; exact g
    · rw [if_neg (fun e => h1 e.1)] at g
      have b1 : ¬ x = qX (D i).2.2.2 j := fun e => h1 (Or.inl e)
      have b2 : ¬ x = qX (D i).2.2.2 j + qS (D i).2.2.2 j := fun e => h1 (Or.inr e)
      rw [if_neg b1, if_neg b2]
      exact g
theorem c_cr {N : Nat} (hN : 100000 ≤ N) {M : am_Mem} {t : Nat} {q : Rc} (h : TilR M t q) (hl : q.2.2.2.length ≤ 40) : ∀ k j fuel, j + k = q.2.2.2.length → k < fuel → fn10_crosses_b4 N fuel t (nI (cntU (fun k => decide (cntU (coB q.2.2.2 (qX q.2.2.2 k) (qY q.2.2.2 k)) q.2.2.2.length = 4)) j)) (nI j) M = some (nI (crN q.2.2.2), M) := by
  have h0 := h
  obtain ⟨tK, ⟨tf, t4, t5, t6⟩, ⟨_, _, k7, l7⟩, ⟨_, _, k8, l8⟩, ⟨_, _, k9, l9⟩, x7, x8, x9⟩ := h
  intro k
  induction k with
  | zero =>
    intro j fuel hj hf
    obtain ⟨f, rfl⟩ : ∃ f, fuel = f + 1 := ⟨fuel - 1, by omega⟩
    have : j = q.2.2.2.length := by omega
    show fn10_crosses_b4B N (fn10_crosses_b4 N f) t _ (nI j) M = _
    unfold fn10_crosses_b4B crN
    rw [nk_k, tK.2.2, nk_dd, t4, if_pos (nI_le (by omega) (by omega)), this]
  | succ k ih =>
    intro j fuel hj hf
    obtain ⟨f, rfl⟩ : ∃ f, fuel = f + 1 := ⟨fuel - 1, by omega⟩
    have g := ih (j + 1) f (by omega) (by omega)
    rw [cntU] at g
    have hc := c_co (N := N) h0 hl (qX q.2.2.2 j) (qY q.2.2.2 j) q.2.2.2.length 0 N (by omega) (by omega)
    have hz := cntU_le (coB q.2.2.2 (qX q.2.2.2 j) (qY q.2.2.2 j)) q.2.2.2.length
    show fn10_crosses_b4B N (fn10_crosses_b4 N f) t _ (nI j) M = _
    unfold fn10_crosses_b4B fn10_crosses_b38 fn10_crosses_b40 fn10_cornersAt fn10_cornersAt_b0
    rw [nk_k, tK.2.2, nk_dd, t4, if_neg (nI_ge (by omega) (by omega)), nk_k, nk_k, k7, k8, l7, l8, nk_in (by omega) (by omega), nI_clamp (by omega), x7 j (by omega), x8 j (by omega), show fn10_cornersAt_b5 N N t (qX q.2.2.2 j) (qY q.2.2.2 j) 0 0 M = _ from hc, nk_bd, nI_1, nI_1]
    simp only [eq_self, decide_true, nk_ck, Int32.add_zero]
    by_cases h4 : cntU (coB q.2.2.2 (qX q.2.2.2 j) (qY q.2.2.2 j)) q.2.2.2.length = 4
    · rw [if_pos (by rw [h4]; rfl)]
      rw [if_pos (decide_eq_true h4)] at g
      exact g
    · have h5 : ¬ nI (cntU (coB q.2.2.2 (qX q.2.2.2 j) (qY q.2.2.2 j)) q.2.2.2.length) = 4 := fun e => h4 ((nI_eq (b := 4) (by omega) (by omega)).mp e)
      rw [if_neg h5]
      rw [if_neg (fun e => h4 (of_decide_eq_true e))] at g
      exact g
theorem m_cr {N : Nat} (hN : 100000 ≤ N) {M : am_Mem} {told m : Nat} {D : Nat → Rc} (h : InvAt M told m D) {i : Nat} (hi : i < m) : ∀ k j fuel, j + k = (D i).2.2.2.length → k < fuel → fn12_crossesOf_b4 N fuel 110 (nI i) (nI (cntU (fun k => decide (cntU (coB (D i).2.2.2 (qX (D i).2.2.2 k) (qY (D i).2.2.2 k)) (D i).2.2.2.length = 4)) j)) (nI j) M = some (nI (crN (D i).2.2.2), M) := by
  have hl := i_len h hi
  intro k
  induction k with
  | zero =>
    intro j fuel hj hf
    obtain ⟨f, rfl⟩ : ∃ f, fuel = f + 1 := ⟨fuel - 1, by omega⟩
    have : j = (D i).2.2.2.length := by omega
    show fn12_crossesOf_b4B N (fn12_crossesOf_b4 N f) 110 (nI i) _ (nI j) M = _
    unfold fn12_crossesOf_b4B crN
    rw [k_110 h, nk_ck, mv_n h hi, nk_bd, if_pos (nI_le (by omega) (by omega)), this]
  | succ k ih =>
    intro j fuel hj hf
    obtain ⟨f, rfl⟩ : ∃ f, fuel = f + 1 := ⟨fuel - 1, by omega⟩
    have g := ih (j + 1) f (by omega) (by omega)
    rw [cntU] at g
    have hj' : j < (D i).2.2.2.length := by omega
    have hc := m_co (N := N) h hi (qX (D i).2.2.2 j) (qY (D i).2.2.2 j) (D i).2.2.2.length 0 N (by omega) (by omega)
    have hz := cntU_le (coB (D i).2.2.2 (qX (D i).2.2.2 j) (qY (D i).2.2.2 j)) (D i).2.2.2.length
    have hle : ¬ nI (D i).2.2.2.length ≤ nI j := nI_ge hj' (by omega)
    show fn12_crossesOf_b4B N (fn12_crossesOf_b4 N f) 110 (nI i) _ (nI j) M = _
    unfold fn12_crossesOf_b4B fn12_crossesOf_b46 fn12_crossesOf_b48 fn12_corners fn12_corners_b0
    simp only [k_110 h, nk_ck, mv_n h hi, nk_bd, hle, if_false, mv_X h hi hj', mv_Y h hi hj', nI_1, Int32.add_zero]
    rw [show fn12_corners_b6 N N 110 (nI i) (qX (D i).2.2.2 j) (qY (D i).2.2.2 j) 0 0 M = _ from hc, nk_bd]
    by_cases h4 : cntU (coB (D i).2.2.2 (qX (D i).2.2.2 j) (qY (D i).2.2.2 j)) (D i).2.2.2.length = 4
    · rw [if_pos (by rw [h4]; rfl)]
      rw [if_pos (decide_eq_true h4)] at g
      exact g
    · have h5 : ¬ nI (cntU (coB (D i).2.2.2 (qX (D i).2.2.2 j) (qY (D i).2.2.2 j)) (D i).2.2.2.length) = 4 := fun e => h4 ((nI_eq (b := 4) (by omega) (by omega)).mp e)
      rw [if_neg h5]
      rw [if_neg (fun e => h4 (of_decide_eq_true e))] at g
      exact g
