/-- squares by natural numbers -/
abbrev Sqn := Nat × Nat × Nat
def djN (p q : Sqn) : Prop := p.1 + p.2.2 ≤ q.1 ∨ q.1 + q.2.2 ≤ p.1 ∨ p.2.1 + p.2.2 ≤ q.2.1 ∨ q.2.1 + q.2.2 ≤ p.2.1
/-- squares under an outline -/
def SkO (O : Ou) (W : Nat) (S : List Sqn) : Prop := (∀ q ∈ S, 1 ≤ q.2.2 ∧ q.1 + q.2.2 ≤ W ∧ ∀ t, q.1 ≤ t → t < q.1 + q.2.2 → q.2.1 + q.2.2 ≤ hO O t) ∧ S.Pairwise djN
def DvO (O : Ou) (W : Nat) (S : List Sqn) : Prop := ∀ g : Nat, g ∣ W → (∀ q ∈ S, g ∣ q.2.2) → (∀ q ∈ S, g ∣ q.1 ∧ g ∣ q.2.1) ∧ ∀ k, k < O.length → g ∣ (O.getD k (0, 0)).1 ∧ g ∣ (O.getD k (0, 0)).2
def sqO (O : Ou) (s : Nat) : Sqn := (bgO O (ntO O), dpO O (ntO O), s)
def wdO (O : Ou) (W : Nat) : Nat := enO O W (ntO O) - bgO O (ntO O)
def arN (S : List Sqn) : Nat := (S.map (fun q => q.2.2 * q.2.2)).sum
section
variable {O : Ou} {W s : Nat} {S : List Sqn}
theorem sk_lay (ho : OkO O W) (hs : 0 < s) (hw : s ≤ wdO O W) (h : SkO O W S) : SkO (lyO O W s) W (S ++ [sqO O s]) := by
  obtain ⟨l1, l2, l3⟩ := ly_ok ho hs hw
  have nl := nt_lt ho
  have be := bg_en ho nl
  have hw' : s ≤ enO O W (ntO O) - bgO O (ntO O) := hw
  have inn : ∀ t, bgO O (ntO O) ≤ t → t < bgO O (ntO O) + s → hO O t = dpO O (ntO O) := fun t h1 h2 => hO_at ho nl h1 (by omega) (by omega)
  refine ⟨fun q hq => ?_, ?_⟩
  · rcases List.mem_append.mp hq with hq | hq
    · obtain ⟨a1, a2, a3⟩ := h.1 q hq
      refine ⟨a1, a2, fun t t1 t2 => ?_⟩
      have := a3 t t1 t2
      rw [l3 t (by omega)]
      by_cases c : bgO O (ntO O) ≤ t ∧ t < bgO O (ntO O) + s
      · rw [if_pos c]
        rw [inn t c.1 c.2] at this
        omega
      · rw [if_neg c]; exact this
    · rw [List.mem_singleton.mp hq]
      refine ⟨hs, ?_, fun t t1 t2 => ?_⟩
      · show bgO O (ntO O) + s ≤ W
        omega
      · have t1' : bgO O (ntO O) ≤ t := t1
        have t2' : t < bgO O (ntO O) + s := t2
        rw [l3 t (by omega), if_pos ⟨t1', t2'⟩]
        exact Nat.le_refl _
  · rw [List.pairwise_append]
    refine ⟨h.2, List.pairwise_singleton _ _, fun p hp q hq => ?_⟩
    rw [List.mem_singleton.mp hq]
    obtain ⟨a1, a2, a3⟩ := h.1 p hp
    show p.1 + p.2.2 ≤ bgO O (ntO O) ∨ bgO O (ntO O) + s ≤ p.1 ∨ p.2.1 + p.2.2 ≤ dpO O (ntO O) ∨ dpO O (ntO O) + s ≤ p.2.1
    by_cases c1 : p.1 + p.2.2 ≤ bgO O (ntO O)
    · exact Or.inl c1
    · by_cases c2 : bgO O (ntO O) + s ≤ p.1
      · exact Or.inr (Or.inl c2)
      · refine Or.inr (Or.inr (Or.inl ?_))
        by_cases c3 : p.1 ≤ bgO O (ntO O)
        · have := a3 (bgO O (ntO O)) c3 (by omega)
          rw [inn _ (Nat.le_refl _) (by omega)] at this
          exact this
        · have := a3 p.1 (Nat.le_refl _) (by omega)
          rw [inn _ (by omega) (by omega)] at this
          exact this
theorem dv_lay (ho : OkO O W) (h : DvO O W S) : DvO (lyO O W s) W (S ++ [sqO O s]) := by
  intro g gw gs
  have nl := nt_lt ho
  have gS : g ∣ s := gs (sqO O s) (List.mem_append_right _ (List.mem_singleton.mpr rfl))
  obtain ⟨a, b⟩ := h g gw (fun q hq => gs q (List.mem_append_left _ hq))
  have bn := b (ntO O) nl
  refine ⟨fun q hq => ?_, ?_⟩
  · rcases List.mem_append.mp hq with hq | hq
    · exact a q hq
    · rw [List.mem_singleton.mp hq]; exact bn
  · exact ly_all (P := fun x => g ∣ x.1 ∧ g ∣ x.2) b ⟨bn.1, Nat.dvd_add bn.2 gS⟩ ⟨Nat.dvd_add bn.1 gS, bn.2⟩ O.length (Nat.le_refl _)
theorem smn_ind (b n v : Nat) : ∀ m, (m ≤ b → SmN m (fun t => if b ≤ t ∧ t < b + n then v else 0) = 0) ∧ (b ≤ m → m ≤ b + n → SmN m (fun t => if b ≤ t ∧ t < b + n then v else 0) = (m - b) * v) ∧ (b + n ≤ m → SmN m (fun t => if b ≤ t ∧ t < b + n then v else 0) = n * v)
  | 0 => ⟨fun _ => rfl, fun h1 h2 => by rw [show 0 - b = 0 by omega, Nat.zero_mul]; rfl, fun h => by rw [show n = 0 by omega, Nat.zero_mul]; rfl⟩
  | m + 1 => by
    obtain ⟨i1, i2, i3⟩ := smn_ind b n v m
    have e : SmN (m + 1) (fun t => if b ≤ t ∧ t < b + n then v else 0) = SmN m (fun t => if b ≤ t ∧ t < b + n then v else 0) + (if b ≤ m ∧ m < b + n then v else 0) := rfl
    rw [e]
    refine ⟨fun h => ?_, fun h1 h2 => ?_, fun h => ?_⟩
    · rw [i1 (by omega), if_neg (fun c => by have := c.1; omega)]
    · by_cases q : b ≤ m
      · rw [i2 q (by omega), if_pos ⟨q, by omega⟩, show m + 1 - b = (m - b) + 1 by omega, Nat.add_mul, Nat.one_mul]
      · rw [i1 (by omega), if_neg (fun c => q c.1), show m + 1 - b = 0 by omega, Nat.zero_mul]
    · by_cases q : b + n ≤ m
      · rw [i3 q, if_neg (fun c => by have := c.2; omega)]; rfl
      · by_cases z : b ≤ m
        · rw [i2 z (by omega), if_pos ⟨z, by omega⟩, show n = (m - b) + 1 by omega, Nat.add_mul, Nat.one_mul]
        · rw [i1 (by omega), if_neg (fun c => z c.1), show n = 0 by omega, Nat.zero_mul]
theorem ar_lay (ho : OkO O W) (hs : 0 < s) (hw : s ≤ wdO O W) (h : SmN W (hO O) = arN S) : SmN W (hO (lyO O W s)) = arN (S ++ [sqO O s]) := by
  obtain ⟨l1, l2, l3⟩ := ly_ok ho hs hw
  have nl := nt_lt ho
  have be := bg_en ho nl
  have hw' : s ≤ enO O W (ntO O) - bgO O (ntO O) := hw
  have e : SmN W (hO (lyO O W s)) = SmN W (fun t => hO O t + (if bgO O (ntO O) ≤ t ∧ t < bgO O (ntO O) + s then s else 0)) := smn_congr (fun t ht => by
    rw [l3 t ht]
    by_cases c : bgO O (ntO O) ≤ t ∧ t < bgO O (ntO O) + s
    · rw [if_pos c, if_pos c, hO_at ho nl c.1 (by omega) ht]
    · rw [if_neg c, if_neg c]; rfl)
  rw [e, smn_add, h, (smn_ind (bgO O (ntO O)) s s W).2.2 (by omega)]
  unfold arN
  rw [List.map_append, List.sum_append]
  show _ + s * s = _ + (s * s + 0)
  omega
/-- what is left of the notch is the notch still -/
theorem wd_split (ho : OkO O W) (hs : 0 < s) (c : s < wdO O W) : wdO (lyO O W s) W = wdO O W - s := by
  have nl := nt_lt ho
  have c' : s < enO O W (ntO O) - bgO O (ntO O) := c
  have eL : lyP O W s (ntO O + 1 + (O.length - (ntO O + 1))) = lyO O W s := by unfold lyO; rw [show ntO O + 1 + (O.length - (ntO O + 1)) = O.length by omega]
  by_cases e0 : 0 < ntO O ∧ dpO O (ntO O - 1) = dpO O (ntO O) + s
  · obtain ⟨a, b⟩ := ly_s1 ho hs c' e0.1 e0.2 (O.length - (ntO O + 1)) (by omega)
    rw [eL] at a b
    have a' : (lyO O W s).length = O.length := by omega
    have gB : ∀ j, j < O.length → bgO (lyO O W s) j = if j = ntO O then bgO O (ntO O) + s else bgO O j := by
      intro j hj
      unfold bgO
      rw [b j (by omega)]
      by_cases q1 : j = ntO O
      · rw [if_pos q1, if_pos q1]; rfl
      · rw [if_neg q1, if_neg q1]
    have gD : ∀ j, j < O.length → dpO (lyO O W s) j = dpO O j := by
      intro j hj
      unfold dpO
      rw [b j (by omega)]
      by_cases q1 : j = ntO O
      · rw [if_pos q1, q1]; rfl
      · rw [if_neg q1]
    have nn : ntO (lyO O W s) = ntO O := by
      refine nt_uni (by omega) (fun j hj => ?_) (fun j hj => ?_)
      · rw [gD _ nl, gD j (by omega)]; exact nt_le ho (by omega)
      · rw [gD _ nl, gD j (by omega)]; exact nt_fst ho hj
    unfold wdO
    rw [nn, gB _ nl, if_pos rfl]
    have en : enO (lyO O W s) W (ntO O) = enO O W (ntO O) := by
      unfold enO
      rw [a']
      by_cases q : ntO O + 1 < O.length
      · rw [if_pos q, if_pos q, gB _ q, if_neg (by omega)]
      · rw [if_neg q, if_neg q]
    rw [en]
    omega
  · obtain ⟨a, b⟩ := ly_s2 ho hs c' (fun z e => e0 ⟨z, e⟩) (O.length - (ntO O + 1)) (by omega)
    rw [eL] at a b
    have a' : (lyO O W s).length = O.length + 1 := by omega
    have gB : ∀ j, j < O.length + 1 → bgO (lyO O W s) j = if j < ntO O then bgO O j else if j = ntO O then bgO O (ntO O) else if j = ntO O + 1 then bgO O (ntO O) + s else bgO O (j - 1) := by
      intro j hj
      unfold bgO
      rw [b j (by omega)]
      by_cases q1 : j < ntO O
      · rw [if_pos q1, if_pos q1]
      · rw [if_neg q1, if_neg q1]
        by_cases q2 : j = ntO O
        · rw [if_pos q2, if_pos q2]; rfl
        · rw [if_neg q2, if_neg q2]
          by_cases q3 : j = ntO O + 1
          · rw [if_pos q3, if_pos q3]; rfl
          · rw [if_neg q3, if_neg q3]
    have gD : ∀ j, j < O.length + 1 → dpO (lyO O W s) j = if j < ntO O then dpO O j else if j = ntO O then dpO O (ntO O) + s else if j = ntO O + 1 then dpO O (ntO O) else dpO O (j - 1) := by
      intro j hj
      unfold dpO
      rw [b j (by omega)]
      by_cases q1 : j < ntO O
      · rw [if_pos q1, if_pos q1]
      · rw [if_neg q1, if_neg q1]
        by_cases q2 : j = ntO O
        · rw [if_pos q2, if_pos q2]; rfl
        · rw [if_neg q2, if_neg q2]
          by_cases q3 : j = ntO O + 1
          · rw [if_pos q3, if_pos q3]; rfl
          · rw [if_neg q3, if_neg q3]
    have nn : ntO (lyO O W s) = ntO O + 1 := by
      have dn : dpO (lyO O W s) (ntO O + 1) = dpO O (ntO O) := by rw [gD _ (by omega), if_neg (by omega), if_neg (by omega), if_pos rfl]
      refine nt_uni (by omega) (fun j hj => ?_) (fun j hj => ?_)
      · rw [dn, gD j (by omega)]
        by_cases q1 : j < ntO O
        · rw [if_pos q1]; exact nt_le ho (by omega)
        · rw [if_neg q1]
          by_cases q2 : j = ntO O
          · rw [if_pos q2]; omega
          · rw [if_neg q2]
            by_cases q3 : j = ntO O + 1
            · rw [if_pos q3]; exact Nat.le_refl _
            · rw [if_neg q3]; exact nt_le ho (by omega)
      · rw [dn, gD j (by omega)]
        by_cases q1 : j < ntO O
        · rw [if_pos q1]; exact nt_fst ho q1
        · rw [if_neg q1, if_pos (by omega)]; omega
    unfold wdO
    rw [nn, gB _ (by omega), if_neg (by omega), if_neg (by omega), if_pos rfl]
    have en : enO (lyO O W s) W (ntO O + 1) = enO O W (ntO O) := by
      unfold enO
      rw [a']
      by_cases q : ntO O + 1 < O.length
      · rw [if_pos (show ntO O + 1 + 1 < O.length + 1 by omega), if_pos q, gB _ (by omega), if_neg (by omega), if_neg (by omega), if_neg (by omega), Nat.add_sub_cancel]
      · rw [if_neg (show ¬ ntO O + 1 + 1 < O.length + 1 by omega), if_neg q]
    rw [en]
    omega
end
/-- drawn numbers: values, groups, sums of groups -/
def vN (L : List (Nat × Nat)) (k : Nat) : Nat := (L.getD k (0, 0)).1
def gN (L : List (Nat × Nat)) (k : Nat) : Nat := (L.getD k (0, 0)).2
def rsF (L : List (Nat × Nat)) (g : Nat) : Nat → Nat → Nat
  | 0, _ => 0
  | m + 1, k => if gN L k = g then vN L k + rsF L g m (k + 1) else 0
def grS (L : List (Nat × Nat)) (k : Nat) : Nat := rsF L (gN L k) (L.length - k) k
def dO (L : List (Nat × Nat)) (W : Nat) : Nat → Ou
  | 0 => [(0, 0)]
  | k + 1 => lyO (dO L W k) W (vN L k)
def dQ (L : List (Nat × Nat)) (W : Nat) : Nat → List Sqn
  | 0 => []
  | k + 1 => dQ L W k ++ [sqO (dO L W k) (vN L k)]
def isS (L : List (Nat × Nat)) (k : Nat) : Prop := k = 0 ∨ ¬ gN L k = gN L (k - 1)
def flA (L : List (Nat × Nat)) (W k : Nat) : Prop := isS L k ∧ ¬ grS L k = wdO (dO L W k) W
/-- numbers as they may be -/
def LsOk (L : List (Nat × Nat)) : Prop := 1 ≤ L.length ∧ L.length ≤ 24 ∧ ∀ k, k < L.length → 1 ≤ vN L k ∧ vN L k < 10000
section
variable {L : List (Nat × Nat)} {W : Nat}
theorem rsF_le (h : LsOk L) (g : Nat) : ∀ m k, m + k ≤ L.length → rsF L g m k ≤ m * 10000
  | 0, _, _ => Nat.zero_le _
  | m + 1, k, hk => by
    have e : rsF L g (m + 1) k = if gN L k = g then vN L k + rsF L g m (k + 1) else 0 := rfl
    have a := rsF_le h g m (k + 1) (by omega)
    have b := h.2.2 k (by omega)
    rw [e]
    by_cases q : gN L k = g
    · rw [if_pos q]; omega
    · rw [if_neg q]; omega
theorem gr_eq {k : Nat} (hk : k < L.length) : grS L k = vN L k + rsF L (gN L k) (L.length - (k + 1)) (k + 1) := by
  unfold grS
  obtain ⟨m, e⟩ : ∃ m, L.length - k = m + 1 := ⟨L.length - k - 1, by omega⟩
  rw [e, show L.length - (k + 1) = m by omega]
  show (if gN L k = gN L k then _ else _) = _
  rw [if_pos rfl]
theorem dr_inv (h : LsOk L) (hW : W = grS L 0) : ∀ k, k ≤ L.length → (∀ j, j < k → ¬ flA L W j) → (OkO (dO L W k) W ∧ SkO (dO L W k) W (dQ L W k) ∧ SmN W (hO (dO L W k)) = arN (dQ L W k) ∧ DvO (dO L W k) W (dQ L W k) ∧ DpO (dO L W k) (k * 10000) ∧ (dO L W k).length ≤ k + 1) ∧ (k < L.length → ¬ flA L W k → 1 ≤ vN L k ∧ vN L k ≤ wdO (dO L W k) W) ∧ (k < L.length → ¬ isS L k → grS L k = wdO (dO L W k) W) := by
  have w0 : 0 < W := by
    rw [hW, gr_eq (by have := h.1; omega)]
    have := h.2.2 0 (by have := h.1; omega)
    omega
  have fin : ∀ k, k < L.length → ¬ flA L W k → (¬ isS L k → grS L k = wdO (dO L W k) W) → 1 ≤ vN L k ∧ vN L k ≤ wdO (dO L W k) W ∧ grS L k = wdO (dO L W k) W := by
    intro k hk nf hc
    have e : grS L k = wdO (dO L W k) W := by
      by_cases q : isS L k
      · exact Classical.byContradiction (fun c => nf ⟨q, c⟩)
      · exact hc q
    have := h.2.2 k hk
    have g := gr_eq hk
    exact ⟨this.1, by omega, e⟩
  intro k
  induction k with
  | zero =>
    intro hk _
    have o1 : OkO [(0, 0)] W := ok_open w0
    refine ⟨⟨o1, ⟨fun q hq => absurd hq List.not_mem_nil, List.Pairwise.nil⟩, ?_, fun g _ _ => ⟨fun q hq => absurd hq List.not_mem_nil, fun k hk => ?_⟩, fun k hk => ?_, Nat.le_refl 1⟩, fun hl nf => ?_, fun _ z => absurd (Or.inl rfl) z⟩
    · show SmN W (hO [(0, 0)]) = 0
      rw [smn_congr (n := W) (g := fun t => if W ≤ t ∧ t < W + 0 then 0 else 0) (fun t ht => by
        rw [if_neg (fun c => by have := c.1; omega)]
        show (if 0 ≤ t then 0 else 0) = 0
        rw [if_pos (Nat.zero_le t)]), (smn_ind W 0 0 W).1 (Nat.le_refl _)]
    · have : k < 1 := hk
      rw [show k = 0 by omega]
      exact ⟨Nat.dvd_zero g, Nat.dvd_zero g⟩
    · have : k < 1 := hk
      rw [show k = 0 by omega]
      exact Nat.zero_le _
    · have := fin 0 hl nf (fun z => absurd (Or.inl rfl) z)
      exact ⟨this.1, this.2.1⟩
  | succ k ih =>
    intro hk nf
    obtain ⟨⟨i1, i2, i3, i4, i5, i6⟩, i7, i8⟩ := ih (by omega) (fun j hj => nf j (by omega))
    obtain ⟨f1, f2, f3⟩ := fin k (by omega) (nf k (by omega)) (fun z => i8 (by omega) z)
    obtain ⟨l1, l2, l3⟩ := ly_ok i1 f1 f2
    have nl := nt_lt i1
    have vb := h.2.2 k (by omega)
    have dpn := i5 (ntO (dO L W k)) nl
    have dpb : DpO (dO L W (k + 1)) ((k + 1) * 10000) := by
      refine ly_all (P := fun x => x.2 ≤ (k + 1) * 10000) (fun j hj => ?_) ?_ ?_ _ (Nat.le_refl _)
      · exact Nat.le_trans (i5 j hj) (Nat.mul_le_mul_right _ (Nat.le_succ k))
      · show ((dO L W k).getD (ntO (dO L W k)) (0, 0)).2 + vN L k ≤ (k + 1) * 10000
        rw [Nat.succ_mul]
        exact Nat.add_le_add dpn (Nat.le_of_lt vb.2)
      · exact Nat.le_trans dpn (Nat.mul_le_mul_right _ (Nat.le_succ k))
    have nx : k + 1 < L.length → ¬ isS L (k + 1) → grS L (k + 1) = wdO (dO L W (k + 1)) W := by
      intro hl ns
      have eg : gN L (k + 1) = gN L k := Classical.byContradiction (fun c => ns (Or.inr c))
      have ge := gr_eq (L := L) (k := k) (by omega)
      have ge2 := gr_eq (L := L) hl
      have vb2 := h.2.2 (k + 1) hl
      have e2 : rsF L (gN L k) (L.length - (k + 1)) (k + 1) = grS L (k + 1) := by
        unfold grS
        rw [eg]
      rw [e2] at ge
      have := wd_split i1 f1 (show vN L k < wdO (dO L W k) W by omega)
      show grS L (k + 1) = wdO (lyO (dO L W k) W (vN L k)) W
      omega
    refine ⟨⟨l1, sk_lay i1 f1 f2 i2, ar_lay i1 f1 f2 i3, dv_lay i1 i4, dpb, ?_⟩, fun hl nf2 => ?_, nx⟩
    · show (lyO (dO L W k) W (vN L k)).length ≤ k + 1 + 1
      omega
    · have := fin (k + 1) hl nf2 (fun z => nx hl z)
      exact ⟨this.1, this.2.1⟩
end
