/-- outlines: pieces by where they begin and how deep they are -/
abbrev Ou := List (Nat × Nat)
def bgO (O : Ou) (k : Nat) : Nat := (O.getD k (0, 0)).1
def dpO (O : Ou) (k : Nat) : Nat := (O.getD k (0, 0)).2
def enO (O : Ou) (W k : Nat) : Nat := if k + 1 < O.length then bgO O (k + 1) else W
def ntF (O : Ou) : Nat → Nat
  | 0 => 0
  | k + 1 => if dpO O k < dpO O (ntF O k) then k else ntF O k
/-- the notch: the first of the least deep -/
def ntO (O : Ou) : Nat := ntF O O.length
def apO (l : Ou) (x : Nat × Nat) : Ou := if 0 < l.length ∧ dpO l (l.length - 1) = x.2 then l else l ++ [x]
/-- what stands for a piece when a square is laid -/
def inO (O : Ou) (W s k : Nat) : Ou := if k = ntO O then (bgO O k, dpO O k + s) :: (if s < enO O W k - bgO O k then [(bgO O k + s, dpO O k)] else []) else [(bgO O k, dpO O k)]
def lyP (O : Ou) (W s : Nat) : Nat → Ou
  | 0 => []
  | k + 1 => (inO O W s k).foldl apO (lyP O W s k)
def lyO (O : Ou) (W s : Nat) : Ou := lyP O W s O.length
theorem gd_l {α : Type} {l m : List α} {k : Nat} {d : α} (h : k < l.length) : (l ++ m).getD k d = l.getD k d := by
  rw [List.getD_eq_getElem?_getD, List.getD_eq_getElem?_getD, List.getElem?_append_left h]
theorem gd_r {α : Type} {l m : List α} {k : Nat} {d : α} (h : l.length ≤ k) : (l ++ m).getD k d = m.getD (k - l.length) d := by
  rw [List.getD_eq_getElem?_getD, List.getD_eq_getElem?_getD, List.getElem?_append_right h]
theorem bg_l {l m : Ou} {k : Nat} (h : k < l.length) : bgO (l ++ m) k = bgO l k := by unfold bgO; rw [gd_l h]
theorem dp_l {l m : Ou} {k : Nat} (h : k < l.length) : dpO (l ++ m) k = dpO l k := by unfold dpO; rw [gd_l h]
theorem bg_n (l : Ou) (x : Nat × Nat) : bgO (l ++ [x]) l.length = x.1 := by unfold bgO; rw [gd_r (Nat.le_refl _), Nat.sub_self]; rfl
theorem dp_n (l : Ou) (x : Nat × Nat) : dpO (l ++ [x]) l.length = x.2 := by unfold dpO; rw [gd_r (Nat.le_refl _), Nat.sub_self]; rfl
theorem len_1 (l : Ou) (x : Nat × Nat) : (l ++ [x]).length = l.length + 1 := by rw [List.length_append]; rfl
/-- the notch -/
theorem ntF_ok (O : Ou) : ∀ k, 0 < k → ntF O k < k ∧ (∀ j, j < k → dpO O (ntF O k) ≤ dpO O j) ∧ ∀ j, j < ntF O k → dpO O (ntF O k) < dpO O j
  | 0, h => absurd h (by decide)
  | 1, _ => by
    have e : ntF O 1 = 0 := by
      show (if dpO O 0 < dpO O 0 then 0 else 0) = 0
      rw [if_neg (by omega)]
    rw [e]
    exact ⟨by decide, fun j hj => by rw [show j = 0 by omega]; exact Nat.le_refl _, fun j hj => absurd hj (Nat.not_lt_zero j)⟩
  | k + 2, _ => by
    obtain ⟨a, b, c⟩ := ntF_ok O (k + 1) (by omega)
    have e : ntF O (k + 2) = if dpO O (k + 1) < dpO O (ntF O (k + 1)) then k + 1 else ntF O (k + 1) := rfl
    rw [e]
    by_cases q : dpO O (k + 1) < dpO O (ntF O (k + 1))
    · rw [if_pos q]
      refine ⟨by omega, fun j hj => ?_, fun j hj => ?_⟩
      · by_cases e : j = k + 1
        · rw [e]; exact Nat.le_refl _
        · have := b j (by omega); omega
      · have := b j (by omega); omega
    · rw [if_neg q]
      refine ⟨by omega, fun j hj => ?_, c⟩
      by_cases e : j = k + 1
      · rw [e]; omega
      · exact b j (by omega)
/-- outlines as they may be -/
def OkO (O : Ou) (W : Nat) : Prop := 0 < O.length ∧ bgO O 0 = 0 ∧ (∀ k, k + 1 < O.length → bgO O k < bgO O (k + 1)) ∧ (∀ k, k < O.length → bgO O k < W) ∧ ∀ k, k + 1 < O.length → ¬ dpO O k = dpO O (k + 1)
theorem nt_lt {O : Ou} {W : Nat} (h : OkO O W) : ntO O < O.length := (ntF_ok O O.length h.1).1
theorem nt_le {O : Ou} {W : Nat} (h : OkO O W) {j : Nat} (hj : j < O.length) : dpO O (ntO O) ≤ dpO O j := (ntF_ok O O.length h.1).2.1 j hj
theorem nt_fst {O : Ou} {W : Nat} (h : OkO O W) {j : Nat} (hj : j < ntO O) : dpO O (ntO O) < dpO O j := (ntF_ok O O.length h.1).2.2 j hj
theorem bg_mono {O : Ou} {W : Nat} (h : OkO O W) : ∀ d j, j + d < O.length → bgO O j ≤ bgO O (j + d)
  | 0, j, _ => Nat.le_refl _
  | d + 1, j, hj => by
    have a := bg_mono h d j (by omega)
    have b := h.2.2.1 (j + d) (by omega)
    have e : j + (d + 1) = j + d + 1 := rfl
    rw [e]; omega
theorem bg_le {O : Ou} {W : Nat} (h : OkO O W) {i j : Nat} (hij : i ≤ j) (hj : j < O.length) : bgO O i ≤ bgO O j := by
  have := bg_mono h (j - i) i (by omega)
  rw [show i + (j - i) = j by omega] at this
  exact this
theorem bg_en {O : Ou} {W : Nat} (h : OkO O W) {k : Nat} (hk : k < O.length) : bgO O k < enO O W k ∧ enO O W k ≤ W := by
  unfold enO
  by_cases q : k + 1 < O.length
  · rw [if_pos q]
    exact ⟨h.2.2.1 k q, Nat.le_of_lt (h.2.2.2.1 _ q)⟩
  · rw [if_neg q]
    exact ⟨h.2.2.2.1 k hk, Nat.le_refl _⟩
/-- how deep it is at a place -/
def hF (O : Ou) (x : Nat) : Nat → Nat
  | 0 => 0
  | k + 1 => if bgO O k ≤ x then dpO O k else hF O x k
def hO (O : Ou) (x : Nat) : Nat := hF O x O.length
theorem hF_congr {O P : Ou} {x : Nat} : ∀ {k : Nat}, (∀ j, j < k → bgO O j = bgO P j ∧ dpO O j = dpO P j) → hF O x k = hF P x k
  | 0, _ => rfl
  | k + 1, h => by
    show (if bgO O k ≤ x then dpO O k else hF O x k) = (if bgO P k ≤ x then dpO P k else hF P x k)
    rw [(h k (by omega)).1, (h k (by omega)).2, hF_congr (k := k) (fun j hj => h j (by omega))]
theorem hF_at {O : Ou} {x k : Nat} (h1 : bgO O k ≤ x) : ∀ d, (∀ j, k < j → j < k + 1 + d → x < bgO O j) → hF O x (k + 1 + d) = dpO O k
  | 0, _ => if_pos h1
  | d + 1, h => by
    show (if bgO O (k + 1 + d) ≤ x then dpO O (k + 1 + d) else hF O x (k + 1 + d)) = _
    rw [if_neg (by have := h (k + 1 + d) (by omega) (by omega); omega)]
    exact hF_at h1 d (fun j a b => h j a (by omega))
theorem hO_at {O : Ou} {W x k : Nat} (h : OkO O W) (hk : k < O.length) (h1 : bgO O k ≤ x) (h2 : x < enO O W k) (hx : x < W) : hO O x = dpO O k := by
  have a := hF_at h1 (O.length - (k + 1)) (fun j a b => by
    have c := bg_le h (show k + 1 ≤ j by omega) (show j < O.length by omega)
    unfold enO at h2
    rw [if_pos (show k + 1 < O.length by omega)] at h2
    omega)
  rw [show k + 1 + (O.length - (k + 1)) = O.length by omega] at a
  exact a
/-- every place lies in one piece -/
theorem pc_at {O : Ou} {W x : Nat} (h : OkO O W) (hx : x < W) : ∃ k, k < O.length ∧ bgO O k ≤ x ∧ x < enO O W k := by
  have : ∀ m, 0 < m → m ≤ O.length → (m < O.length → x < bgO O m) → ∃ k, k < O.length ∧ bgO O k ≤ x ∧ x < enO O W k := by
    intro m
    induction m with
    | zero => intro h0; omega
    | succ m ih =>
      intro _ hm hn
      by_cases q : bgO O m ≤ x
      · refine ⟨m, by omega, q, ?_⟩
        unfold enO
        by_cases l : m + 1 < O.length
        · rw [if_pos l]; exact hn l
        · rw [if_neg l]; exact hx
      · by_cases z : m = 0
        · rw [z, h.2.1] at q; omega
        · exact ih (by omega) (by omega) (fun _ => by omega)
  exact this O.length h.1 (Nat.le_refl _) (fun z => by omega)
theorem nt_min {O : Ou} {W x : Nat} (h : OkO O W) (hx : x < W) : dpO O (ntO O) ≤ hO O x := by
  obtain ⟨k, a, b, c⟩ := pc_at h hx
  rw [hO_at h a b c hx]
  exact nt_le h a
/-- a piece put behind -/
def OkP (l : Ou) (B : Nat) : Prop := (0 < l.length → bgO l 0 = 0) ∧ (∀ k, k + 1 < l.length → bgO l k < bgO l (k + 1)) ∧ (∀ k, k < l.length → bgO l k < B) ∧ ∀ k, k + 1 < l.length → ¬ dpO l k = dpO l (k + 1)
theorem ap_ok {l : Ou} {B C : Nat} {x : Nat × Nat} (h : OkP l B) (h0 : l.length = 0 → x.1 = 0) (h1 : B ≤ x.1) (h2 : x.1 < C) : OkP (apO l x) C ∧ 0 < (apO l x).length ∧ (apO l x).length ≤ l.length + 1 ∧ (∀ t, t < x.1 → hO (apO l x) t = hO l t) ∧ ∀ t, x.1 ≤ t → hO (apO l x) t = x.2 := by
  obtain ⟨a, b, c, d⟩ := h
  unfold apO
  by_cases q : 0 < l.length ∧ dpO l (l.length - 1) = x.2
  · rw [if_pos q]
    refine ⟨⟨a, b, fun k hk => by have := c k hk; omega, d⟩, q.1, by omega, fun _ _ => rfl, fun t ht => ?_⟩
    have e : l.length = l.length - 1 + 1 := by omega
    have h3 := c (l.length - 1) (by omega)
    unfold hO
    rw [e]
    show (if bgO l (l.length - 1) ≤ t then dpO l (l.length - 1) else _) = x.2
    rw [if_pos (by omega)]
    exact q.2
  · rw [if_neg q]
    have lo : ∀ t, hF (l ++ [x]) t l.length = hO l t := fun t => hF_congr (fun j hj => ⟨bg_l hj, dp_l hj⟩)
    have hn : ∀ t, hO (l ++ [x]) t = if x.1 ≤ t then x.2 else hO l t := by
      intro t
      unfold hO
      rw [len_1]
      show (if bgO (l ++ [x]) l.length ≤ t then dpO (l ++ [x]) l.length else hF (l ++ [x]) t l.length) = _
      rw [bg_n, dp_n, lo]
      rfl
    refine ⟨⟨fun _ => ?_, fun k hk => ?_, fun k hk => ?_, fun k hk => ?_⟩, by rw [len_1]; omega, by rw [len_1]; exact Nat.le_refl _, fun t ht => by rw [hn, if_neg (by omega)], fun t ht => by rw [hn, if_pos ht]⟩
    · by_cases z : l.length = 0
      · have e := bg_n l x
        rw [z] at e
        rw [e]; exact h0 z
      · rw [bg_l (by omega)]; exact a (by omega)
    · rw [len_1] at hk
      rw [bg_l (show k < l.length by omega)]
      by_cases z : k + 1 < l.length
      · rw [bg_l z]; exact b k z
      · rw [show k + 1 = l.length by omega, bg_n]
        have := c k (by omega)
        omega
    · rw [len_1] at hk
      by_cases z : k < l.length
      · rw [bg_l z]; have := c k z; omega
      · rw [show k = l.length by omega, bg_n]; exact h2
    · rw [len_1] at hk
      rw [dp_l (show k < l.length by omega)]
      by_cases z : k + 1 < l.length
      · rw [dp_l z]; exact d k z
      · rw [show k + 1 = l.length by omega, dp_n]
        intro e
        refine q ⟨by omega, ?_⟩
        rw [show l.length - 1 = k by omega]
        exact e
/-- where the next piece begins -/
def nxO (O : Ou) (W k : Nat) : Nat := if k < O.length then bgO O k else W
theorem lyP_ok {O : Ou} {W s : Nat} (h : OkO O W) (hs : 0 < s) (hw : s ≤ enO O W (ntO O) - bgO O (ntO O)) : ∀ k, k ≤ O.length → OkP (lyP O W s k) (nxO O W k) ∧ (0 < k → 0 < (lyP O W s k).length) ∧ (lyP O W s k).length ≤ k + 1 ∧ ((lyP O W s k).length ≤ k ∨ ntO O < k) ∧ ∀ t, t < nxO O W k → hO (lyP O W s k) t = if bgO O (ntO O) ≤ t ∧ t < bgO O (ntO O) + s then dpO O (ntO O) + s else hO O t
  | 0, _ => by
    have e : nxO O W 0 = 0 := by
      unfold nxO
      rw [if_pos h.1]; exact h.2.1
    rw [e]
    exact ⟨⟨fun z => absurd z (Nat.lt_irrefl 0), fun k hk => absurd hk (Nat.not_lt_zero _), fun k hk => absurd hk (Nat.not_lt_zero _), fun k hk => absurd hk (Nat.not_lt_zero _)⟩, fun z => absurd z (by decide), Nat.zero_le _, Or.inl (Nat.le_refl _), fun t ht => absurd ht (Nat.not_lt_zero t)⟩
  | k + 1, hk => by
    obtain ⟨i1, i2, i3, i4, i5⟩ := lyP_ok h hs hw k (by omega)
    have kl : k < O.length := by omega
    have nk : nxO O W k = bgO O k := if_pos kl
    have nk1 : nxO O W (k + 1) = enO O W k := rfl
    obtain ⟨e1, e2⟩ := bg_en h kl
    have z0 : (lyP O W s k).length = 0 → bgO O k = 0 := by
      intro z
      have : k = 0 := by
        refine Classical.byContradiction (fun c => ?_)
        have := i2 (by omega)
        omega
      rw [this]; exact h.2.1
    rw [nk] at i1 i5
    rw [nk1]
    have nl := nt_lt h
    obtain ⟨f1, f2⟩ := bg_en h nl
    by_cases q : k = ntO O
    · have ly : lyP O W s (k + 1) = (if s < enO O W k - bgO O k then apO (apO (lyP O W s k) (bgO O k, dpO O k + s)) (bgO O k + s, dpO O k) else apO (lyP O W s k) (bgO O k, dpO O k + s)) := by
        show (inO O W s k).foldl apO (lyP O W s k) = _
        unfold inO
        rw [if_pos q]
        by_cases c : s < enO O W k - bgO O k
        · rw [if_pos c, if_pos c]; rfl
        · rw [if_neg c, if_neg c]; rfl
      rw [ly]
      rw [← q] at hw f1 f2 ⊢
      have inn : ∀ t, bgO O k ≤ t → t < enO O W k → hO O t = dpO O k := fun t h1 h2 => hO_at h kl h1 h2 (by omega)
      by_cases c : s < enO O W k - bgO O k
      · rw [if_pos c]
        obtain ⟨a1, a2, a3, a4, a5⟩ := ap_ok (C := bgO O k + s) (x := (bgO O k, dpO O k + s)) i1 z0 (Nat.le_refl _) (by show bgO O k < bgO O k + s; omega)
        obtain ⟨b1, b2, b3, b4, b5⟩ := ap_ok (C := enO O W k) (x := (bgO O k + s, dpO O k)) a1 (fun z => by omega) (Nat.le_refl _) (by show bgO O k + s < enO O W k; omega)
        have lm : (apO (lyP O W s k) (bgO O k, dpO O k + s)).length ≤ k + 1 := by
          rcases i4 with i4 | i4
          · omega
          · omega
        refine ⟨b1, fun _ => b2, by omega, Or.inr (by omega), fun t ht => ?_⟩
        by_cases t1 : bgO O k + s ≤ t
        · rw [b5 t t1, if_neg (fun z => by have := z.2; omega), inn t (by omega) ht]
        · rw [b4 t (show t < bgO O k + s by omega)]
          by_cases t2 : bgO O k ≤ t
          · rw [a5 t t2, if_pos ⟨t2, by omega⟩]
          · rw [a4 t (show t < bgO O k by omega), i5 t (by omega), ← q]
      · rw [if_neg c]
        have sw : s = enO O W k - bgO O k := by omega
        obtain ⟨a1, a2, a3, a4, a5⟩ := ap_ok (C := enO O W k) (x := (bgO O k, dpO O k + s)) i1 z0 (Nat.le_refl _) e1
        refine ⟨a1, fun _ => a2, ?_, Or.inr (by omega), fun t ht => ?_⟩
        · rcases i4 with i4 | i4
          · omega
          · omega
        · by_cases t2 : bgO O k ≤ t
          · rw [a5 t t2, if_pos ⟨t2, by omega⟩]
          · rw [a4 t (show t < bgO O k by omega), i5 t (by omega), ← q]
    · have ly : lyP O W s (k + 1) = apO (lyP O W s k) (bgO O k, dpO O k) := by
        show (inO O W s k).foldl apO (lyP O W s k) = _
        unfold inO
        rw [if_neg q]
        rfl
      rw [ly]
      obtain ⟨a1, a2, a3, a4, a5⟩ := ap_ok (C := enO O W k) (x := (bgO O k, dpO O k)) i1 z0 (Nat.le_refl _) e1
      refine ⟨a1, fun _ => a2, by omega, ?_, fun t ht => ?_⟩
      · rcases i4 with i4 | i4
        · exact Or.inl (by omega)
        · exact Or.inr (by omega)
      · by_cases t2 : bgO O k ≤ t
        · rw [a5 t t2, hO_at h kl t2 ht (by omega), if_neg]
          intro z
          by_cases o : k < ntO O
          · have := bg_le h (show k + 1 ≤ ntO O by omega) nl
            have e : enO O W k = bgO O (k + 1) := if_pos (by omega)
            have := z.1
            omega
          · have e : enO O W (ntO O) ≤ bgO O k := by
              have e : enO O W (ntO O) = bgO O (ntO O + 1) := if_pos (by omega)
              rw [e]
              exact bg_le h (by omega) kl
            have := z.2
            omega
        · rw [a4 t (show t < bgO O k by omega), i5 t (by omega)]
/-- a square laid: the outline after it -/
theorem ly_ok {O : Ou} {W s : Nat} (h : OkO O W) (hs : 0 < s) (hw : s ≤ enO O W (ntO O) - bgO O (ntO O)) : OkO (lyO O W s) W ∧ (lyO O W s).length ≤ O.length + 1 ∧ ∀ t, t < W → hO (lyO O W s) t = if bgO O (ntO O) ≤ t ∧ t < bgO O (ntO O) + s then dpO O (ntO O) + s else hO O t := by
  obtain ⟨a1, a2, a3, a4, a5⟩ := lyP_ok h hs hw O.length (Nat.le_refl _)
  have e : nxO O W O.length = W := if_neg (by omega)
  rw [e] at a1 a5
  have p := a2 h.1
  exact ⟨⟨p, a1.1 p, a1.2.1, a1.2.2.1, a1.2.2.2⟩, a3, a5⟩
