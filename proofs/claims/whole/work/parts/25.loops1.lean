def anyU (p : Nat → Bool) : Nat → Nat → Bool
  | _, 0 => false
  | j, k + 1 => p j || anyU p (j + 1) k
theorem anyU_iff (p : Nat → Bool) : ∀ k j, anyU p j k = true ↔ ∃ b, j ≤ b ∧ b < j + k ∧ p b = true
  | 0, j => by
    unfold anyU
    constructor
    · intro h; cases h
    · intro ⟨b, h1, h2, _⟩; omega
  | k + 1, j => by
    unfold anyU
    rw [Bool.or_eq_true, anyU_iff p k (j + 1)]
    constructor
    · rintro (h | ⟨b, h1, h2, h3⟩)
      · exact ⟨j, Nat.le_refl _, by omega, h⟩
      · exact ⟨b, by omega, by omega, h3⟩
    · rintro ⟨b, h1, h2, h3⟩
      by_cases e : b = j
      · subst e; exact Or.inl h3
      · exact Or.inr ⟨b, by omega, by omega, h3⟩
/-- where the least is found first -/
def lsI (S : Nat → Int32) : Nat → Nat → Nat → Nat
  | _, 0, b => b
  | j, k + 1, b => lsI S (j + 1) k (if S b ≤ S j then b else j)
theorem c_ls {N : Nat} {M : am_Mem} {t : Nat} {q : Rc} (h : TilR M t q) (hl : q.2.2.2.length ≤ 40) : ∀ k j fuel b, j + k = q.2.2.2.length → k < fuel → b < q.2.2.2.length → fn10_firstSmallest_b4 N fuel t (nI b) (nI j) M = some (nI (lsI (qS q.2.2.2) j k b), M) := by
  obtain ⟨tK, ⟨tf, t4, t5, t6⟩, ⟨_, _, k7, l7⟩, ⟨_, _, k8, l8⟩, ⟨_, _, k9, l9⟩, x7, x8, x9⟩ := h
  intro k
  induction k with
  | zero =>
    intro j fuel b hj hf hb
    obtain ⟨f, rfl⟩ : ∃ f, fuel = f + 1 := ⟨fuel - 1, by omega⟩
    show fn10_firstSmallest_b4B N (fn10_firstSmallest_b4 N f) t (nI b) (nI j) M = _
    unfold fn10_firstSmallest_b4B
    rw [nk_k, tK.2.2, t4, if_pos (nI_le (by omega) (by omega))]
    rfl
  | succ k ih =>
    intro j fuel b hj hf hb
    obtain ⟨f, rfl⟩ : ∃ f, fuel = f + 1 := ⟨fuel - 1, by omega⟩
    show fn10_firstSmallest_b4B N (fn10_firstSmallest_b4 N f) t (nI b) (nI j) M = _
    unfold fn10_firstSmallest_b4B fn10_firstSmallest_b29
    rw [nk_k, tK.2.2, t4, if_neg (nI_ge (by omega) (by omega)), nk_k, k9, l9, nk_in (by omega) (by omega), nk_in (by omega) (by omega), nI_clamp (by omega), nI_clamp (by omega), x9 b hb, x9 j (by omega), nI_1, nk_dd, nk_dd, nk_ck, nk_ck]
    unfold lsI
    by_cases hc : qS q.2.2.2 b ≤ qS q.2.2.2 j
    · rw [if_pos hc, if_pos hc]
      exact ih (j + 1) f b (by omega) (by omega) hb
    · rw [if_neg hc, if_neg hc]
      exact ih (j + 1) f j (by omega) (by omega) (by omega)
theorem m_ls {N : Nat} {M : am_Mem} {told m : Nat} {D : Nat → Rc} (h : InvAt M told m D) {i : Nat} (hi : i < m) : ∀ k j fuel b, j + k = (D i).2.2.2.length → k < fuel → b < (D i).2.2.2.length → fn12_least_b30 N fuel 110 (nI i) (nI b) (nI j) M = some (nI (lsI (qS (D i).2.2.2) j k b), M) := by
  have hl := i_len h hi
  intro k
  induction k with
  | zero =>
    intro j fuel b hj hf hb
    obtain ⟨f, rfl⟩ : ∃ f, fuel = f + 1 := ⟨fuel - 1, by omega⟩
    show fn12_least_b30B N (fn12_least_b30 N f) 110 (nI i) (nI b) (nI j) M = _
    unfold fn12_least_b30B
    rw [k_110 h, nk_ck, mv_n h hi, nk_bd, if_pos (nI_le (by omega) (by omega))]
    rfl
  | succ k ih =>
    intro j fuel b hj hf hb
    obtain ⟨f, rfl⟩ : ∃ f, fuel = f + 1 := ⟨fuel - 1, by omega⟩
    show fn12_least_b30B N (fn12_least_b30 N f) 110 (nI i) (nI b) (nI j) M = _
    unfold fn12_least_b30B fn12_least_b63
    rw [k_110 h, nk_ck, mv_n h hi, nk_bd, if_neg (nI_ge (by omega) (by omega)), k_110 h, nk_ck, mv_S h hi (by omega), nk_bd, k_110 h, nk_ck, mv_S h hi hb, nk_bd, nI_1]
    unfold lsI
    by_cases hc : qS (D i).2.2.2 b ≤ qS (D i).2.2.2 j
    · rw [if_pos hc, if_pos hc]
      exact ih (j + 1) f b (by omega) (by omega) hb
    · rw [if_neg hc, if_neg hc]
      exact ih (j + 1) f j (by omega) (by omega) (by omega)
theorem ok_least {N : Nat} (hN : 100000 ≤ N) : OK_least N Inv := by
  intro M x ⟨told, m, D, h⟩
  have h' := inv_thr h 0
  have hm := i_m h
  rcases pk_ix2 x (n := m) (by omega) with hx | ⟨i, hi, rfl⟩
  · refine ⟨-1, M, am_wI M 110 0 0, ?_, sk110 (i_shp h), ?_, told, m, D, h'⟩
    · unfold fn11_least fn11_least_b0
      rw [cf_no h hx]
      rfl
    · unfold fn12_least fn12_least_b0
      rw [k_110 h, mi_no h' hx]
      rfl
  · have t := i_til h hi
    have hl := i_len h hi
    rcases good_f (i_good h hi) with ⟨a, b⟩ | ⟨a, b⟩
    · refine ⟨-2, M, am_wI M 110 0 0, ?_, sk110 (i_shp h), ?_, told, m, D, h'⟩
      · unfold fn11_least fn11_least_b0 fn11_least_b20 fn11_refusalFor fn11_refusalFor_b0 fn11_refusalFor_b10
        rw [cf_yes h hi]
        simp only [tilr_ne t, k_til t, nk_ck, if_false]
        rw [t.2.1.1, a]
        rfl
      · unfold fn12_least fn12_least_b0
        rw [k_110 h, mi_yes h' hi, nk_ck, nk_bd]
        simp only [z_1, if_false]
        rw [k_110w h, mv_fail h' hi, a]
        rfl
    · have h1 := b.1
      refine ⟨nI (lsI (qS (D i).2.2.2) 1 ((D i).2.2.2.length - 1) 0), M, am_wI M 110 0 0, ?_, sk110 (i_shp h), ?_, told, m, D, h'⟩
      · unfold fn11_least fn11_least_b0
        rw [cf_yes h hi]
        simp only [tilr_ne t, k_til t, nk_ck, if_false]
        unfold fn10_firstSmallest fn10_firstSmallest_b0
        rw [t.2.1.1, a, if_pos rfl, show (0 : Int32) = nI 0 from rfl, show (1 : Int32) = nI 1 from rfl, c_ls t hl ((D i).2.2.2.length - 1) 1 N 0 (by omega) (by omega) (by omega)]
        rfl
      · unfold fn12_least fn12_least_b0
        rw [k_110 h, mi_yes h' hi, nk_ck, nk_bd]
        simp only [z_1, if_false]
        rw [k_110w h, mv_fail h' hi, a, nk_ck, nk_bd]
        simp only [if_true]
        exact m_ls h' hi ((D i).2.2.2.length - 1) 1 N 0 (by omega) (by omega) (by omega)
/-- whether a square begins a group -/
def bgB (L : List Sq) (k : Nat) : Bool := decide (k = 0) || !(decide (qY L k = qY L (k - 1)) && decide (qX L k = qX L (k - 1) + qS L (k - 1)))
section
variable {M : am_Mem} {t : Nat} {q : Rc}
theorem c_right (h : TilR M t q) (hl : q.2.2.2.length ≤ 40) {k : Nat} (hk : k < q.2.2.2.length) : fn10_right M t (nI k) = some (qX q.2.2.2 k + qS q.2.2.2 k, M) := by
  obtain ⟨tK, ⟨tf, t4, t5, t6⟩, ⟨_, _, k7, l7⟩, ⟨_, _, k8, l8⟩, ⟨_, _, k9, l9⟩, x7, x8, x9⟩ := h
  unfold fn10_right fn10_right_b0
  rw [nk_k, nk_k, nk_k, tK.2.2, k7, k9, l7, l9, nk_in hk (by omega), nI_clamp (by omega), x7 k hk, x9 k hk]
  rfl
theorem c_bottom (h : TilR M t q) (hl : q.2.2.2.length ≤ 40) {k : Nat} (hk : k < q.2.2.2.length) : fn10_bottom M t (nI k) = some (qY q.2.2.2 k + qS q.2.2.2 k, M) := by
  obtain ⟨tK, ⟨tf, t4, t5, t6⟩, ⟨_, _, k7, l7⟩, ⟨_, _, k8, l8⟩, ⟨_, _, k9, l9⟩, x7, x8, x9⟩ := h
  unfold fn10_bottom fn10_bottom_b0
  rw [nk_k, nk_k, nk_k, tK.2.2, k8, k9, l8, l9, nk_in hk (by omega), nI_clamp (by omega), x8 k hk, x9 k hk]
  rfl
theorem c_starts (h : TilR M t q) (hl : q.2.2.2.length ≤ 40) {k : Nat} (hk : k < q.2.2.2.length) : fn10_startsGroup M t (nI k) = some (if bgB q.2.2.2 k = true then 1 else 0, M) := by
  have hr : ∀ j, j < q.2.2.2.length → fn10_right M t (nI j) = some (qX q.2.2.2 j + qS q.2.2.2 j, M) := fun j hj => c_right h hl hj
  obtain ⟨tK, ⟨tf, t4, t5, t6⟩, ⟨_, _, k7, l7⟩, ⟨_, _, k8, l8⟩, ⟨_, _, k9, l9⟩, x7, x8, x9⟩ := h
  unfold fn10_startsGroup fn10_startsGroup_b0 fn10_startsGroup_b37 fn10_startsGroup_b42 bgB
  by_cases h0 : k = 0
  · subst h0
    rfl
  · have e : nI k - 1 = nI (k - 1) := nk_sub k 1 (by omega)
    rw [if_neg (nI_ne0 (by omega) (by omega)), nk_k, nk_k, nk_k, tK.2.2, k7, k8, l7, l8, e, nk_in hk (by omega), nk_in (by omega) (by omega), nI_clamp (by omega), nI_clamp (by omega), x7 k hk, x8 k hk, x8 (k - 1) (by omega), hr (k - 1) (by omega), nk_bd, decide_eq_false h0]
    by_cases h1 : qY q.2.2.2 k = qY q.2.2.2 (k - 1)
    · rw [if_pos h1, decide_eq_true h1]
      by_cases h2 : qX q.2.2.2 k = qX q.2.2.2 (k - 1) + qS q.2.2.2 (k - 1)
      · rw [if_pos h2, decide_eq_true h2]; rfl
      · rw [if_neg h2, decide_eq_false h2]; rfl
    · rw [if_neg h1, decide_eq_false h1]; rfl
theorem c_groups {N : Nat} (h : TilR M t q) (hl : q.2.2.2.length ≤ 40) : ∀ k j fuel, j + k = q.2.2.2.length → k < fuel → fn10_codeGroups_b4 N fuel t (nI (cntU (bgB q.2.2.2) j)) (nI j) M = some (nI (cntU (bgB q.2.2.2) q.2.2.2.length), M) := by
  intro k
  induction k with
  | zero =>
    intro j fuel hj hf
    obtain ⟨f, rfl⟩ : ∃ f, fuel = f + 1 := ⟨fuel - 1, by omega⟩
    have : j = q.2.2.2.length := by omega
    show fn10_codeGroups_b4B N (fn10_codeGroups_b4 N f) t _ (nI j) M = _
    unfold fn10_codeGroups_b4B
    rw [k_til h, nk_ck, h.2.1.2.1, if_pos (nI_le (by omega) (by omega)), this]
  | succ k ih =>
    intro j fuel hj hf
    obtain ⟨f, rfl⟩ : ∃ f, fuel = f + 1 := ⟨fuel - 1, by omega⟩
    have hz := cntU_le (bgB q.2.2.2) j
    have g := ih (j + 1) f (by omega) (by omega)
    rw [cntU] at g
    show fn10_codeGroups_b4B N (fn10_codeGroups_b4 N f) t _ (nI j) M = _
    unfold fn10_codeGroups_b4B fn10_codeGroups_b26 fn10_codeGroups_b28
    rw [k_til h, nk_ck, h.2.1.2.1, if_neg (nI_ge (by omega) (by omega)), c_starts h hl (by omega), nk_bd, nI_1, nI_1]
    by_cases hb : bgB q.2.2.2 j = true
    · rw [if_pos hb] at g ⊢
      simp only [z_1, if_false]
      exact g
    · rw [if_neg hb] at g ⊢
      simp only [if_true, Int32.add_zero]
      exact g
end
section
variable {M : am_Mem} {told m : Nat} {D : Nat → Rc}
theorem m_beside (h : InvAt M told m D) {i k : Nat} (hi : i < m) (hk : k < (D i).2.2.2.length) : fn12_isBeside M 110 (nI i) (nI k) = some (if bgB (D i).2.2.2 k = true then 0 else 1, M) := by
  have hl := i_len h hi
  unfold fn12_isBeside fn12_isBeside_b0 fn12_isBeside_b64 fn12_isBeside_b65 bgB
  by_cases h0 : k = 0
  · subst h0
    rfl
  · have e : ∀ a : Nat, nI (a + k) - 1 = nI (a + (k - 1)) := fun a => by
      rw [show (1 : Int32) = nI 1 from rfl, pk_sub (by omega)]
      congr 1
      omega
    have e4 : (4 : Int32) + nI k - 1 = 4 + nI (k - 1) := by rw [lit_add 4 k, e 4, ← lit_add 4 (k - 1)]
    have e44 : (44 : Int32) + nI k - 1 = 44 + nI (k - 1) := by rw [lit_add 44 k, e 44, ← lit_add 44 (k - 1)]
    have e84 : (84 : Int32) + nI k - 1 = 84 + nI (k - 1) := by rw [lit_add 84 k, e 84, ← lit_add 84 (k - 1)]
    rw [if_neg (nI_nle (by omega) (by omega)), e4, e44, e84, k_110 h, nk_ck, mv_Y h hi hk, nk_bd, k_110 h, nk_ck, mv_Y h hi (by omega), nk_bd, k_110 h, nk_ck, mv_X h hi hk, nk_bd, k_110 h, nk_ck, mv_X h hi (by omega), nk_bd, k_110 h, nk_ck, mv_S h hi (by omega), nk_bd, decide_eq_false h0]
    by_cases h1 : qY (D i).2.2.2 k = qY (D i).2.2.2 (k - 1)
    · rw [if_pos h1, decide_eq_true h1]
      by_cases h2 : qX (D i).2.2.2 k = qX (D i).2.2.2 (k - 1) + qS (D i).2.2.2 (k - 1)
      · rw [if_pos h2, decide_eq_true h2]; rfl
      · rw [if_neg h2, decide_eq_false h2]; rfl
    · rw [if_neg h1, decide_eq_false h1]; rfl
theorem m_groups {N : Nat} (h : InvAt M told m D) {i : Nat} (hi : i < m) : ∀ k j fuel, j + k = (D i).2.2.2.length → k < fuel → fn12_groups_b30 N fuel 110 (nI i) (nI (cntU (bgB (D i).2.2.2) j)) (nI j) M = some (nI (cntU (bgB (D i).2.2.2) (D i).2.2.2.length), M) := by
  have hl := i_len h hi
  intro k
  induction k with
  | zero =>
    intro j fuel hj hf
    obtain ⟨f, rfl⟩ : ∃ f, fuel = f + 1 := ⟨fuel - 1, by omega⟩
    have : j = (D i).2.2.2.length := by omega
    show fn12_groups_b30B N (fn12_groups_b30 N f) 110 (nI i) _ (nI j) M = _
    unfold fn12_groups_b30B
    rw [k_110 h, nk_ck, mv_n h hi, nk_bd, if_pos (nI_le (by omega) (by omega)), this]
  | succ k ih =>
    intro j fuel hj hf
    obtain ⟨f, rfl⟩ : ∃ f, fuel = f + 1 := ⟨fuel - 1, by omega⟩
    have hz := cntU_le (bgB (D i).2.2.2) j
    have g := ih (j + 1) f (by omega) (by omega)
    rw [cntU] at g
    show fn12_groups_b30B N (fn12_groups_b30 N f) 110 (nI i) _ (nI j) M = _
    unfold fn12_groups_b30B fn12_groups_b55 fn12_groups_b57
    rw [k_110 h, nk_ck, mv_n h hi, nk_bd, if_neg (nI_ge (by omega) (by omega)), k_110 h, nk_ck, m_beside h hi (by omega), nk_bd, nI_1, nI_1]
    by_cases hb : bgB (D i).2.2.2 j = true
    · rw [if_pos hb] at g ⊢
      simp only [if_true]
      exact g
    · rw [if_neg hb] at g ⊢
      simp only [z_1, if_false, Int32.add_zero]
      exact g
end
theorem ok_groups {N : Nat} (hN : 100000 ≤ N) : OK_groups N Inv := by
  intro M x ⟨told, m, D, h⟩
  have h' := inv_thr h 0
  have hm := i_m h
  rcases pk_ix2 x (n := m) (by omega) with hx | ⟨i, hi, rfl⟩
  · refine ⟨-1, M, am_wI M 110 0 0, ?_, sk110 (i_shp h), ?_, told, m, D, h'⟩
    · unfold fn11_groups fn11_groups_b0
      rw [cf_no h hx]
      rfl
    · unfold fn12_groups fn12_groups_b0
      rw [k_110 h, mi_no h' hx]
      rfl
  · have t := i_til h hi
    have hl := i_len h hi
    rcases good_f (i_good h hi) with ⟨a, b⟩ | ⟨a, b⟩
    · refine ⟨-2, M, am_wI M 110 0 0, ?_, sk110 (i_shp h), ?_, told, m, D, h'⟩
      · unfold fn11_groups fn11_groups_b0 fn11_groups_b20 fn11_refusalFor fn11_refusalFor_b0 fn11_refusalFor_b10
        rw [cf_yes h hi]
        simp only [tilr_ne t, k_til t, nk_ck, if_false]
        rw [t.2.1.1, a]
        rfl
      · unfold fn12_groups fn12_groups_b0
        rw [k_110 h, mi_yes h' hi, nk_ck, nk_bd]
        simp only [z_1, if_false]
        rw [k_110w h, mv_fail h' hi, a]
        rfl
    · refine ⟨nI (cntU (bgB (D i).2.2.2) (D i).2.2.2.length), M, am_wI M 110 0 0, ?_, sk110 (i_shp h), ?_, told, m, D, h'⟩
      · unfold fn11_groups fn11_groups_b0
        rw [cf_yes h hi]
        simp only [tilr_ne t, k_til t, nk_ck, if_false]
        have g := c_groups (N := N) t hl (D i).2.2.2.length 0 N (by omega) (by omega)
        unfold fn10_codeGroups fn10_codeGroups_b0
        rw [t.2.1.1, a, if_pos rfl, show fn10_codeGroups_b4 N N (am_R M 105 i) 0 0 M = _ from g]
        rfl
      · unfold fn12_groups fn12_groups_b0
        rw [k_110 h, mi_yes h' hi, nk_ck, nk_bd]
        simp only [z_1, if_false]
        rw [k_110w h, mv_fail h' hi, a, nk_ck, nk_bd]
        simp only [if_true]
        exact m_groups (N := N) h' hi (D i).2.2.2.length 0 N (by omega) (by omega)
