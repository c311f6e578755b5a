def lD (a : Ln) : Int := a.1.toInt
def lL (a : Ln) : Int := a.2.1.toInt
def lR (a : Ln) : Int := a.2.2.1.toInt
def lF (a : Ln) : Int32 := a.2.2.2
/-- the stretch from x to x + 1 lies in one of them, at that depth -/
def Cov (X : List Ln) (d x : Int) : Prop := ∃ s ∈ X, lD s = d ∧ lL s ≤ x ∧ x + 1 ≤ lR s
def flw (d l r : Int) (s : Ln) : Int32 := if lD s = d ∧ l ≤ lL s ∧ lL s < r then lF s else 0
def Flow (d l r : Int) : List Ln → Int32
  | [] => 0
  | s :: X => flw d l r s + Flow d l r X
/-- the same stretches, the same flows -/
def Eqv (X Y : List Ln) : Prop := (∀ d x, Cov X d x ↔ Cov Y d x) ∧ ∀ d l r, ¬ Cov X d (l - 1) → ¬ Cov X d r → Flow d l r X = Flow d l r Y
theorem eqv_refl (X : List Ln) : Eqv X X := ⟨fun _ _ => Iff.rfl, fun _ _ _ _ _ => rfl⟩
theorem eqv_trans {X Y Z : List Ln} (h : Eqv X Y) (g : Eqv Y Z) : Eqv X Z :=
  ⟨fun d x => (h.1 d x).trans (g.1 d x), fun d l r a b => (h.2 d l r a b).trans (g.2 d l r (fun c => a ((h.1 _ _).mpr c)) (fun c => b ((h.1 _ _).mpr c)))⟩
theorem eqv_symm {X Y : List Ln} (h : Eqv X Y) : Eqv Y X :=
  ⟨fun d x => (h.1 d x).symm, fun d l r a b => (h.2 d l r (fun c => a ((h.1 _ _).mp c)) (fun c => b ((h.1 _ _).mp c))).symm⟩
theorem cov_cons {n : Ln} {X : List Ln} {d x : Int} : Cov (n :: X) d x ↔ (lD n = d ∧ lL n ≤ x ∧ x + 1 ≤ lR n) ∨ Cov X d x := by
  unfold Cov
  constructor
  · rintro ⟨s, hs, h⟩
    rcases List.mem_cons.mp hs with rfl | hs
    · exact Or.inl h
    · exact Or.inr ⟨s, hs, h⟩
  · rintro (h | ⟨s, hs, h⟩)
    · exact ⟨n, List.mem_cons_self, h⟩
    · exact ⟨s, List.mem_cons_of_mem _ hs, h⟩
theorem eqv_cons {X Y : List Ln} (n : Ln) (h : Eqv X Y) : Eqv (n :: X) (n :: Y) := by
  refine ⟨fun d x => ?_, fun d l r a b => ?_⟩
  · rw [cov_cons, cov_cons, h.1]
  · show flw d l r n + Flow d l r X = flw d l r n + Flow d l r Y
    rw [h.2 d l r (fun c => a (cov_cons.mpr (Or.inr c))) (fun c => b (cov_cons.mpr (Or.inr c)))]
theorem flow_perm {d l r : Int} {X Y : List Ln} (p : X.Perm Y) : Flow d l r X = Flow d l r Y := by
  induction p with
  | nil => rfl
  | cons x _ ih => show _ + _ = _ + _; rw [ih]
  | swap x y l' =>
    show flw d l r y + (flw d l r x + Flow d l r l') = flw d l r x + (flw d l r y + Flow d l r l')
    rw [← Int32.add_assoc, ← Int32.add_assoc, Int32.add_comm (flw d l r y)]
  | trans _ _ a b => exact a.trans b
theorem eqv_perm {X Y : List Ln} (p : X.Perm Y) : Eqv X Y := by
  refine ⟨fun d x => ?_, fun d l r _ _ => flow_perm p⟩
  unfold Cov
  constructor
  · rintro ⟨s, hs, h⟩; exact ⟨s, p.mem_iff.mp hs, h⟩
  · rintro ⟨s, hs, h⟩; exact ⟨s, p.mem_iff.mpr hs, h⟩
theorem eqv_merge {c b m : Ln} (X : List Ln) (hd : lD c = lD b) (h1 : lL c ≤ lR b) (h2 : lL b ≤ lR c) (hc : lL c < lR c) (hb : lL b < lR b) (m0 : lD m = lD c) (m1 : lL m = min (lL c) (lL b)) (m2 : lR m = max (lR c) (lR b)) (m3 : lF m = lF c + lF b) : Eqv (c :: b :: X) (m :: X) := by
  refine ⟨fun d x => ?_, fun d l r a e => ?_⟩
  · rw [cov_cons, cov_cons, cov_cons, ← or_assoc]
    refine or_congr ?_ Iff.rfl
    rw [m0, m1, m2, ← hd]
    omega
  · rw [cov_cons, cov_cons] at a e
    have a1 : ¬ (lD c = d ∧ lL c ≤ l - 1 ∧ l - 1 + 1 ≤ lR c) := fun x => a (Or.inl x)
    have a2 : ¬ (lD b = d ∧ lL b ≤ l - 1 ∧ l - 1 + 1 ≤ lR b) := fun x => a (Or.inr (Or.inl x))
    have e1 : ¬ (lD c = d ∧ lL c ≤ r ∧ r + 1 ≤ lR c) := fun x => e (Or.inl x)
    have e2 : ¬ (lD b = d ∧ lL b ≤ r ∧ r + 1 ≤ lR b) := fun x => e (Or.inr (Or.inl x))
    show flw d l r c + (flw d l r b + Flow d l r X) = flw d l r m + Flow d l r X
    unfold flw
    rw [m0, m1, m3]
    by_cases w : lD c = d ∧ l ≤ lL c ∧ lL c < r
    · rw [if_pos w, if_pos (show lD b = d ∧ l ≤ lL b ∧ lL b < r by omega), if_pos (show lD c = d ∧ l ≤ min (lL c) (lL b) ∧ min (lL c) (lL b) < r by omega), Int32.add_assoc]
    · rw [if_neg w, if_neg (show ¬ (lD b = d ∧ l ≤ lL b ∧ lL b < r) by omega), if_neg (show ¬ (lD c = d ∧ l ≤ min (lL c) (lL b) ∧ min (lL c) (lL b) < r) by omega), Int32.zero_add]
def sep (a b : Ln) : Prop := lD a < lD b ∨ (lD a = lD b ∧ lR a < lL b)
def Can (T : List Ln) : Prop := T.Pairwise sep ∧ ∀ t ∈ T, lL t < lR t
theorem sep_or : ∀ {T : List Ln}, T.Pairwise sep → ∀ a ∈ T, ∀ b ∈ T, a = b ∨ sep a b ∨ sep b a
  | x :: l, h, a, ha, b, hb => by
    rw [List.pairwise_cons] at h
    rcases List.mem_cons.mp ha with ea | ha
    · rcases List.mem_cons.mp hb with eb | hb
      · exact Or.inl (ea.trans eb.symm)
      · exact Or.inr (Or.inl (by rw [ea]; exact h.1 b hb))
    · rcases List.mem_cons.mp hb with eb | hb
      · exact Or.inr (Or.inr (by rw [eb]; exact h.1 a ha))
      · exact sep_or h.2 a ha b hb
theorem flow_0 {d l r : Int} : ∀ {X : List Ln}, (∀ s ∈ X, ¬ (lD s = d ∧ l ≤ lL s ∧ lL s < r)) → Flow d l r X = 0
  | [], _ => rfl
  | s :: X, h => by
    show flw d l r s + Flow d l r X = 0
    unfold flw
    rw [if_neg (h s List.mem_cons_self), flow_0 (fun t ht => h t (List.mem_cons_of_mem _ ht)), Int32.zero_add]
theorem flow_one : ∀ {T : List Ln}, Can T → ∀ t ∈ T, Flow (lD t) (lL t) (lR t) T = lF t
  | a :: l, h, t, ht => by
    obtain ⟨h1, h2⟩ := h
    rw [List.pairwise_cons] at h1
    have ha := h2 a List.mem_cons_self
    show flw (lD t) (lL t) (lR t) a + Flow (lD t) (lL t) (lR t) l = lF t
    unfold flw
    rcases List.mem_cons.mp ht with e | hm
    · subst e
      rw [if_pos ⟨rfl, Int.le_refl _, ha⟩, flow_0, Int32.add_zero]
      intro s hs
      have := h1.1 s hs
      unfold sep at this
      omega
    · have hs := h1.1 t hm
      have h2t := h2 t ht
      unfold sep at hs
      rw [if_neg (by omega), Int32.zero_add]
      exact flow_one ⟨h1.2, fun s hs => h2 s (List.mem_cons_of_mem _ hs)⟩ t hm
theorem ln_ext {a b : Ln} (h1 : lD a = lD b) (h2 : lL a = lL b) (h3 : lR a = lR b) (h4 : lF a = lF b) : a = b := by
  obtain ⟨a1, a2, a3, a4⟩ := a
  obtain ⟨b1, b2, b3, b4⟩ := b
  have e1 : a1 = b1 := Int32.toInt_inj.mp h1
  have e2 : a2 = b2 := Int32.toInt_inj.mp h2
  have e3 : a3 = b3 := Int32.toInt_inj.mp h3
  have e4 : a4 = b4 := h4
  rw [e1, e2, e3, e4]
theorem can_mem {T T' : List Ln} (c : Can T) (c' : Can T') (e : Eqv T T') : ∀ t ∈ T, t ∈ T' := by
  intro t ht
  have tl := c.2 t ht
  obtain ⟨t', ht', q1, q2, q3⟩ := (e.1 (lD t) (lL t)).mp ⟨t, ht, rfl, Int.le_refl _, by omega⟩
  have tl' := c'.2 t' ht'
  have no : ∀ x, ¬ (lL t ≤ x ∧ x + 1 ≤ lR t) → (lL t - 1 ≤ x ∧ x ≤ lR t) → ¬ Cov T (lD t) x := by
    intro x hx hw ⟨s, hs, s1, s2, s3⟩
    have sl := c.2 s hs
    rcases sep_or c.1 t ht s hs with h | h | h
    · subst h; omega
    · unfold sep at h; omega
    · unfold sep at h; omega
  have no' : ∀ x, ¬ (lL t' ≤ x ∧ x + 1 ≤ lR t') → (lL t' - 1 ≤ x ∧ x ≤ lR t') → ¬ Cov T' (lD t') x := by
    intro x hx hw ⟨s, hs, s1, s2, s3⟩
    have sl := c'.2 s hs
    rcases sep_or c'.1 t' ht' s hs with h | h | h
    · subst h; omega
    · unfold sep at h; omega
    · unfold sep at h; omega
  have eL : lL t' = lL t := by
    refine Classical.byContradiction (fun hn => ?_)
    exact no (lL t - 1) (by omega) (by omega) ((e.1 _ _).mpr ⟨t', ht', q1, by omega, by omega⟩)
  have eR : lR t' = lR t := by
    refine Classical.byContradiction (fun hn => ?_)
    rcases Int.lt_or_gt_of_ne hn with h | h
    · have := (e.1 (lD t) (lR t')).mp ⟨t, ht, rfl, by omega, by omega⟩
      rw [← q1] at this
      exact no' (lR t') (by omega) (by omega) this
    · exact no (lR t) (by omega) (by omega) ((e.1 _ _).mpr ⟨t', ht', q1, by omega, by omega⟩)
  have f1 := flow_one c t ht
  have f2 := flow_one c' t' ht'
  have f3 := e.2 (lD t) (lL t) (lR t) (no _ (by omega) (by omega)) (no _ (by omega) (by omega))
  rw [q1, eL, eR] at f2
  have : t' = t := ln_ext q1 eL eR (by rw [← f2, ← f1, f3])
  rw [← this]
  exact ht'
theorem can_list : ∀ {T T' : List Ln}, Can T → Can T' → (∀ t, t ∈ T ↔ t ∈ T') → T = T'
  | [], [], _, _, _ => rfl
  | [], b :: l', _, _, h => absurd ((h b).mpr List.mem_cons_self) (List.not_mem_nil)
  | a :: l, [], _, _, h => absurd ((h a).mp List.mem_cons_self) (List.not_mem_nil)
  | a :: l, b :: l', c, c', h => by
    obtain ⟨p, s⟩ := c
    obtain ⟨p', s'⟩ := c'
    rw [List.pairwise_cons] at p p'
    have ha := s a List.mem_cons_self
    have hb := s' b List.mem_cons_self
    have irr : ∀ x : Ln, lL x < lR x → ¬ sep x x := fun x hx h => by unfold sep at h; omega
    have ab : a = b := by
      refine Classical.byContradiction (fun hn => ?_)
      have h1 : sep b a := by
        rcases List.mem_cons.mp ((h a).mp List.mem_cons_self) with e | e
        · exact absurd e hn
        · exact p'.1 a e
      have h2 : sep a b := by
        rcases List.mem_cons.mp ((h b).mpr List.mem_cons_self) with e | e
        · exact absurd e.symm hn
        · exact p.1 b e
      unfold sep at h1 h2
      omega
    subst ab
    congr 1
    refine can_list ⟨p.2, fun t ht => s t (List.mem_cons_of_mem _ ht)⟩ ⟨p'.2, fun t ht => s' t (List.mem_cons_of_mem _ ht)⟩ (fun t => ?_)
    constructor
    · intro ht
      rcases List.mem_cons.mp ((h t).mp (List.mem_cons_of_mem _ ht)) with e | e
      · subst e; exact absurd (p.1 t ht) (irr t ha)
      · exact e
    · intro ht
      rcases List.mem_cons.mp ((h t).mpr (List.mem_cons_of_mem _ ht)) with e | e
      · subst e; exact absurd (p'.1 t ht) (irr t ha)
      · exact e
theorem can_uniq {T T' : List Ln} (c : Can T) (c' : Can T') (e : Eqv T T') : T = T' :=
  can_list c c' (fun t => ⟨can_mem c c' e t, can_mem c' c (eqv_symm e) t⟩)
/-- behind another one -/
theorem lnGt_iff {a b : Ln} : lnGt a b = true ↔ lD b < lD a ∨ (lD a = lD b ∧ lL b < lL a) := by
  unfold lnGt lD lL
  rw [Bool.or_eq_true, Bool.and_eq_true, decide_eq_true_eq, decide_eq_true_eq, decide_eq_true_eq, Int32.lt_iff_toInt_lt, Int32.lt_iff_toInt_lt, Int32.toInt_inj]
def lnSd (T : List Ln) : Prop := T.Pairwise (fun a b => ¬ lnGt a b = true)
theorem lnIns_perm (r : Ln) : ∀ T, (lnIns r T).Perm (r :: T)
  | [] => List.Perm.refl _
  | a :: l => by
    unfold lnIns
    split
    · exact List.Perm.refl _
    · exact ((lnIns_perm r l).cons a).trans (List.Perm.swap _ _ _)
theorem lnIns_sd (r : Ln) : ∀ T, lnSd T → lnSd (lnIns r T)
  | [], _ => List.pairwise_singleton _ _
  | a :: l, h => by
    unfold lnSd at h ⊢
    rw [List.pairwise_cons] at h
    unfold lnIns
    split
    · rename_i g
      rw [List.pairwise_cons, List.pairwise_cons]
      refine ⟨fun b hb => ?_, h⟩
      have hab : b = a ∨ ¬ lnGt a b = true := by
        rcases List.mem_cons.mp hb with e | e
        · exact Or.inl e
        · exact Or.inr (h.1 b e)
      rw [lnGt_iff] at g ⊢
      rcases hab with e | e
      · subst e; omega
      · rw [lnGt_iff] at e; omega
    · rename_i g
      rw [List.pairwise_cons]
      refine ⟨fun b hb => ?_, lnIns_sd r l h.2⟩
      rcases List.mem_cons.mp ((lnIns_perm r l).mem_iff.mp hb) with e | e
      · subst e; exact g
      · exact h.1 b e
theorem lnFold_sd : ∀ (K A : List Ln), lnSd A → lnSd (K.foldl (fun l r => lnIns r l) A) ∧ (K.foldl (fun l r => lnIns r l) A).Perm (K ++ A)
  | [], A, h => ⟨h, List.Perm.refl _⟩
  | r :: K, A, h => by
    obtain ⟨a, b⟩ := lnFold_sd K (lnIns r A) (lnIns_sd r A h)
    refine ⟨a, b.trans ?_⟩
    exact (List.Perm.append_left K (lnIns_perm r A)).trans List.perm_middle
theorem mrg_ok : ∀ (l : List Ln) (c : Ln), lnSd (c :: l) → (∀ t ∈ c :: l, lL t < lR t) → Eqv (c :: l) (lnMrg c l) ∧ Can (lnMrg c l) ∧ ∀ t ∈ lnMrg c l, lD c < lD t ∨ (lD c = lD t ∧ lL c ≤ lL t)
  | [], c, _, h => ⟨eqv_refl _, ⟨List.pairwise_singleton _ _, h⟩, fun t ht => by
    rw [show lnMrg c [] = [c] from rfl, List.mem_singleton] at ht
    subst ht
    omega⟩
  | b :: l, c, hs, h => by
    unfold lnSd at hs
    rw [List.pairwise_cons] at hs
    have hcb := hs.1 b List.mem_cons_self
    rw [lnGt_iff] at hcb
    have hc := h c List.mem_cons_self
    have hb := h b (List.mem_cons_of_mem _ List.mem_cons_self)
    have hs2 := hs.2
    rw [List.pairwise_cons] at hs2
    unfold lnMrg
    by_cases e : b.1 = c.1 ∧ ¬ c.2.2.1 < b.2.1
    · rw [if_pos e]
      have ed : lD c = lD b := by unfold lD; rw [e.1]
      have er : lL b ≤ lR c := by
        have := e.2
        rw [Int32.lt_iff_toInt_lt] at this
        unfold lL lR
        omega
      have mr : lR (c.1, c.2.1, (if c.2.2.1 < b.2.2.1 then b.2.2.1 else c.2.2.1), c.2.2.2 + b.2.2.2) = max (lR c) (lR b) := by
        show (if c.2.2.1 < b.2.2.1 then b.2.2.1 else c.2.2.1 : Int32).toInt = max c.2.2.1.toInt b.2.2.1.toInt
        by_cases q : c.2.2.1 < b.2.2.1
        · rw [if_pos q]; rw [Int32.lt_iff_toInt_lt] at q; omega
        · rw [if_neg q]; rw [Int32.lt_iff_toInt_lt] at q; omega
      obtain ⟨i1, i2, i3⟩ := mrg_ok l (c.1, c.2.1, (if c.2.2.1 < b.2.2.1 then b.2.2.1 else c.2.2.1), c.2.2.2 + b.2.2.2) (by
        unfold lnSd
        rw [List.pairwise_cons]
        refine ⟨fun t ht => ?_, hs2.2⟩
        have := hs.1 t (List.mem_cons_of_mem _ ht)
        rw [lnGt_iff] at this ⊢
        exact this) (by
        intro t ht
        rcases List.mem_cons.mp ht with q | q
        · subst q
          rw [mr]
          have : lL (c.1, c.2.1, (if c.2.2.1 < b.2.2.1 then b.2.2.1 else c.2.2.1), c.2.2.2 + b.2.2.2) = lL c := rfl
          omega
        · exact h t (List.mem_cons_of_mem _ (List.mem_cons_of_mem _ q)))
      refine ⟨eqv_trans (eqv_merge (m := (c.1, c.2.1, (if c.2.2.1 < b.2.2.1 then b.2.2.1 else c.2.2.1), c.2.2.2 + b.2.2.2)) l ed (by omega) er hc hb rfl ?_ mr rfl) i1, i2, i3⟩
      show lL c = min (lL c) (lL b)
      omega
    · rw [if_neg e]
      have hsb : lnSd (b :: l) := by
        unfold lnSd
        exact hs.2
      obtain ⟨i1, i2, i3⟩ := mrg_ok l b hsb (fun t ht => h t (List.mem_cons_of_mem _ ht))
      have sp : ∀ t ∈ lnMrg b l, sep c t := by
        intro t ht
        have k := i3 t ht
        have e' : ¬ (lD b = lD c ∧ lL b ≤ lR c) := fun ⟨x1, x2⟩ => e ⟨Int32.toInt_inj.mp x1, by rw [Int32.lt_iff_toInt_lt]; unfold lL lR at x2; omega⟩
        unfold sep
        omega
      refine ⟨eqv_cons c i1, ⟨List.pairwise_cons.mpr ⟨sp, i2.1⟩, fun t ht => ?_⟩, fun t ht => ?_⟩
      · rcases List.mem_cons.mp ht with q | q
        · subst q; exact hc
        · exact i2.2 t q
      · rcases List.mem_cons.mp ht with q | q
        · subst q; omega
        · have := sp t q
          unfold sep at this
          omega
def lnSides (L : List Sq) : List Ln := L.map lnTop ++ L.map lnLow
theorem lnS_ok {w h : Int} {L : List Sq} (g : Geo w h L) : Eqv (lnSides L) (lnS L) ∧ Can (lnS L) := by
  obtain ⟨a, b⟩ := lnFold_sd (lnSides L) [] List.Pairwise.nil
  rw [List.append_nil] at b
  have ha : lnAll L = (lnSides L).foldl (fun l r => lnIns r l) [] := rfl
  rw [← ha] at a b
  have pos : ∀ t ∈ lnAll L, lL t < lR t := by
    intro t ht
    have ht := b.mem_iff.mp ht
    have key : ∀ q ∈ L, q.1.toInt < (q.1 + q.2.2).toInt := by
      intro q hq
      obtain ⟨c1, c2, c3, c4, c5⟩ := g.2.2.2.2.1 q hq
      have w1 := g.2.2.1
      rw [i32_add (by omega) (by omega)]
      omega
    rcases List.mem_append.mp ht with ht | ht
    · obtain ⟨q, hq, rfl⟩ := List.mem_map.mp ht
      exact key q hq
    · obtain ⟨q, hq, rfl⟩ := List.mem_map.mp ht
      exact key q hq
  unfold lnS
  revert a b pos
  cases hA : lnAll L with
  | nil =>
    intro a b pos
    exact ⟨eqv_symm (eqv_perm b), List.Pairwise.nil, fun t ht => absurd ht (List.not_mem_nil)⟩
  | cons x l =>
    intro a b pos
    obtain ⟨i1, i2, i3⟩ := mrg_ok l x a pos
    exact ⟨eqv_trans (eqv_symm (eqv_perm b)) i1, i2⟩
