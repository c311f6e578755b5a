/-- the search: the outline and the squares when wires were laid (the last laid stands first) -/
def opN (sz : Nat → Nat) (Wd : Nat) : List Nat → Ou
  | [] => [(0, 0)]
  | x :: p => lyO (opN sz Wd p) Wd (sz x)
def sqN (sz : Nat → Nat) (Wd : Nat) : List Nat → List Sqn
  | [] => []
  | x :: p => sqN sz Wd p ++ [sqO (opN sz Wd p) (sz x)]
/-- does a wire fit -/
def fitB (sz st : Nat → Nat) (Wd H : Nat) (p : List Nat) (w : Nat) : Bool := decide (¬ w ∈ p) && decide (0 < sz w) && decide (sz w ≤ wdO (opN sz Wd p) Wd) && decide (st w + dpO (opN sz Wd p) (ntO (opN sz Wd p)) = H)
theorem fit_iff {sz st : Nat → Nat} {Wd H : Nat} {p : List Nat} {w : Nat} : fitB sz st Wd H p w = true ↔ ¬ w ∈ p ∧ 0 < sz w ∧ sz w ≤ wdO (opN sz Wd p) Wd ∧ st w + dpO (opN sz Wd p) (ntO (opN sz Wd p)) = H := by
  unfold fitB
  rw [Bool.and_eq_true, Bool.and_eq_true, Bool.and_eq_true, decide_eq_true_iff, decide_eq_true_iff, decide_eq_true_iff, decide_eq_true_iff, and_assoc, and_assoc]
/-- what a search comes to: 0 nothing, 1 found, 2 too many; how many were laid; the wires -/
abbrev Rs := Nat × Nat × List Nat
def lpF (f : List Nat → Nat → Bool) (m : Nat) (g : List Nat → Nat → Rs) (p : List Nat) : Nat → Nat → Rs
  | 0, c => (0, c, [])
  | n + 1, c => if f p (m - (n + 1)) = true then (if c = 20000 then (2, c, []) else if (g ((m - (n + 1)) :: p) (c + 1)).1 = 0 then lpF f m g p n (g ((m - (n + 1)) :: p) (c + 1)).2.1 else g ((m - (n + 1)) :: p) (c + 1)) else lpF f m g p n c
def gsF (f : List Nat → Nat → Bool) (m : Nat) : Nat → List Nat → Nat → Rs
  | 0, p, c => (1, c, p)
  | r + 1, p, c => lpF f m (gsF f m r) p m c
def unF (f : List Nat → Nat → Bool) (m K : Nat) : List Nat → Rs → Rs
  | [], q => q
  | x :: p, q => if q.1 = 0 then unF f m K p (lpF f m (gsF f m (K - p.length - 1)) p (m - (x + 1)) q.2.1) else q
/-- wires laid as they may be -/
def PtN (f : List Nat → Nat → Bool) (m : Nat) : List Nat → Prop
  | [] => True
  | x :: p => PtN f m p ∧ f p x = true ∧ x < m
section
variable {f : List Nat → Nat → Bool} {m : Nat}
theorem lp_ok {g : List Nat → Nat → Rs} {r : Nat} (hg : ∀ p c, PtN f m p → c ≤ 20000 → c ≤ (g p c).2.1 ∧ (g p c).2.1 ≤ 20000 ∧ ((g p c).1 = 0 ∨ (g p c).1 = 1 ∨ (g p c).1 = 2) ∧ ((g p c).1 = 1 → PtN f m (g p c).2.2 ∧ (g p c).2.2.length = p.length + r)) {p : List Nat} (hp : PtN f m p) : ∀ n c, n ≤ m → c ≤ 20000 → c ≤ (lpF f m g p n c).2.1 ∧ (lpF f m g p n c).2.1 ≤ 20000 ∧ ((lpF f m g p n c).1 = 0 ∨ (lpF f m g p n c).1 = 1 ∨ (lpF f m g p n c).1 = 2) ∧ ((lpF f m g p n c).1 = 1 → PtN f m (lpF f m g p n c).2.2 ∧ (lpF f m g p n c).2.2.length = p.length + (r + 1)) := by
  intro n
  induction n with
  | zero => exact fun c _ hc => ⟨Nat.le_refl c, hc, Or.inl rfl, fun z => absurd z (by show ¬ 0 = 1; decide)⟩
  | succ n ih =>
    intro c hn hc
    have e : lpF f m g p (n + 1) c = if f p (m - (n + 1)) = true then (if c = 20000 then (2, c, []) else if (g ((m - (n + 1)) :: p) (c + 1)).1 = 0 then lpF f m g p n (g ((m - (n + 1)) :: p) (c + 1)).2.1 else g ((m - (n + 1)) :: p) (c + 1)) else lpF f m g p n c := rfl
    rw [e]
    by_cases q : f p (m - (n + 1)) = true
    · rw [if_pos q]
      by_cases q2 : c = 20000
      · rw [if_pos q2]
        exact ⟨Nat.le_refl c, hc, Or.inr (Or.inr rfl), fun z => absurd z (by show ¬ 2 = 1; decide)⟩
      · rw [if_neg q2]
        obtain ⟨a1, a2, a3, a4⟩ := hg ((m - (n + 1)) :: p) (c + 1) ⟨hp, q, by omega⟩ (by omega)
        by_cases q3 : (g ((m - (n + 1)) :: p) (c + 1)).1 = 0
        · rw [if_pos q3]
          obtain ⟨b1, b2, b3, b4⟩ := ih (g ((m - (n + 1)) :: p) (c + 1)).2.1 (by omega) a2
          exact ⟨by omega, b2, b3, b4⟩
        · rw [if_neg q3]
          refine ⟨by omega, a2, a3, fun z => ?_⟩
          obtain ⟨b1, b2⟩ := a4 z
          refine ⟨b1, ?_⟩
          rw [b2, List.length_cons]; omega
    · rw [if_neg q]
      exact ih c (by omega) hc
theorem gs_ok : ∀ (r : Nat) (p : List Nat) (c : Nat), PtN f m p → c ≤ 20000 → c ≤ (gsF f m r p c).2.1 ∧ (gsF f m r p c).2.1 ≤ 20000 ∧ ((gsF f m r p c).1 = 0 ∨ (gsF f m r p c).1 = 1 ∨ (gsF f m r p c).1 = 2) ∧ ((gsF f m r p c).1 = 1 → PtN f m (gsF f m r p c).2.2 ∧ (gsF f m r p c).2.2.length = p.length + r)
  | 0, p, c, hp, hc => ⟨Nat.le_refl c, hc, Or.inr (Or.inl rfl), fun _ => ⟨hp, rfl⟩⟩
  | r + 1, p, c, hp, hc => lp_ok (gs_ok r) hp m c (Nat.le_refl m) hc
end
section
variable {sz st : Nat → Nat} {Wd H m : Nat}
/-- outlines of wires laid as they may be -/
theorem pt_okm (hW : 0 < Wd) (hst : ∀ w, w < m → sz w ≤ st w) : ∀ p : List Nat, PtN (fitB sz st Wd H) m p → OkO (opN sz Wd p) Wd ∧ SkO (opN sz Wd p) Wd (sqN sz Wd p) ∧ DvO (opN sz Wd p) Wd (sqN sz Wd p) ∧ DpO (opN sz Wd p) H ∧ (opN sz Wd p).length ≤ p.length + 1 ∧ (∀ q ∈ sqN sz Wd p, q.2.1 + q.2.2 ≤ H) ∧ (sqN sz Wd p).length = p.length
  | [], _ => by
    refine ⟨ok_open hW, ⟨fun q hq => absurd hq List.not_mem_nil, List.Pairwise.nil⟩, fun g _ _ => ⟨fun q hq => absurd hq List.not_mem_nil, fun k hk => ?_⟩, fun k hk => ?_, Nat.le_refl 1, fun q hq => absurd hq List.not_mem_nil, rfl⟩
    · have : k < 1 := hk
      rw [show k = 0 by omega]
      exact ⟨Nat.dvd_zero g, Nat.dvd_zero g⟩
    · have : k < 1 := hk
      rw [show k = 0 by omega]
      exact Nat.zero_le _
  | x :: p, h => by
    obtain ⟨i1, i2, i3, i4, i5, i6, i7⟩ := pt_okm hW hst p h.1
    obtain ⟨f1, f2, f3, f4⟩ := fit_iff.mp h.2.1
    obtain ⟨l1, l2, l3⟩ := ly_ok i1 f2 f3
    have hs := hst x h.2.2
    refine ⟨l1, sk_lay i1 f2 f3 i2, dv_lay i1 i3, ?_, ?_, ?_, ?_⟩
    · refine ly_all (P := fun y => y.2 ≤ H) i4 ?_ ?_ _ (Nat.le_refl _)
      · show dpO (opN sz Wd p) (ntO (opN sz Wd p)) + sz x ≤ H
        omega
      · show dpO (opN sz Wd p) (ntO (opN sz Wd p)) ≤ H
        omega
    · show (lyO (opN sz Wd p) Wd (sz x)).length ≤ (x :: p).length + 1
      rw [List.length_cons]; omega
    · intro q hq
      rcases List.mem_append.mp hq with hq | hq
      · exact i6 q hq
      · rw [List.mem_singleton.mp hq]
        show dpO (opN sz Wd p) (ntO (opN sz Wd p)) + sz x ≤ H
        omega
    · show (sqN sz Wd p ++ [sqO (opN sz Wd p) (sz x)]).length = (x :: p).length
      rw [List.length_append, i7]; rfl
theorem pt_dn : ∀ p : List Nat, PtN (fitB sz st Wd H) m p → p.Nodup ∧ ∀ x ∈ p, x < m ∧ 0 < sz x
  | [], _ => ⟨List.nodup_nil, fun x hx => absurd hx List.not_mem_nil⟩
  | x :: p, h => by
    obtain ⟨a, b⟩ := pt_dn p h.1
    obtain ⟨f1, f2, _, _⟩ := fit_iff.mp h.2.1
    refine ⟨List.nodup_cons.mpr ⟨f1, a⟩, fun y hy => ?_⟩
    rcases List.mem_cons.mp hy with e | hy
    · rw [e]; exact ⟨h.2.2, f2⟩
    · exact b y hy
/-- the wires that carry something -/
def cnN (sz : Nat → Nat) : Nat → Nat
  | 0 => 0
  | m + 1 => cnN sz m + (if 0 < sz m then 1 else 0)
theorem cn_le : ∀ (m : Nat) (p : List Nat), p.Nodup → (∀ x ∈ p, x < m ∧ 0 < sz x) → p.length ≤ cnN sz m ∧ (p.length = cnN sz m → (p.map (fun x => sz x * sz x)).sum = SmN m (fun w => sz w * sz w))
  | 0, p, _, h => by
    cases p with
    | nil => exact ⟨Nat.le_refl _, fun _ => rfl⟩
    | cons x p => exact absurd (h x List.mem_cons_self).1 (Nat.not_lt_zero x)
  | m + 1, p, hd, h => by
    have e1 : cnN sz (m + 1) = cnN sz m + (if 0 < sz m then 1 else 0) := rfl
    have e2 : SmN (m + 1) (fun w => sz w * sz w) = SmN m (fun w => sz w * sz w) + sz m * sz m := rfl
    rw [e1, e2]
    by_cases q : m ∈ p
    · have pm := List.perm_cons_erase q
      have hd2 : (p.erase m).Nodup := hd.erase m
      have len : p.length = (p.erase m).length + 1 := by
        have := pm.length_eq
        rw [List.length_cons] at this
        exact this
      have sum : (p.map (fun x => sz x * sz x)).sum = sz m * sz m + ((p.erase m).map (fun x => sz x * sz x)).sum := by
        have := (pm.map (fun x => sz x * sz x)).sum_nat
        rw [List.map_cons, List.sum_cons] at this
        exact this
      obtain ⟨a, b⟩ := cn_le m (p.erase m) hd2 (fun x hx => by
        obtain ⟨h1, h2⟩ := h x (List.mem_of_mem_erase hx)
        refine ⟨?_, h2⟩
        have : ¬ x = m := fun e => by
          rw [e] at hx
          exact (List.Nodup.not_mem_erase hd) hx
        omega)
      have pz := (h m q).2
      rw [if_pos pz]
      refine ⟨by omega, fun e => ?_⟩
      rw [sum, b (by omega)]; omega
    · obtain ⟨a, b⟩ := cn_le m p hd (fun x hx => by
        obtain ⟨h1, h2⟩ := h x hx
        refine ⟨?_, h2⟩
        have : ¬ x = m := fun e => q (by rw [← e]; exact hx)
        omega)
      by_cases z : 0 < sz m
      · rw [if_pos z]
        exact ⟨by omega, fun e => by omega⟩
      · rw [if_neg z]
        refine ⟨by omega, fun e => ?_⟩
        have z0 : sz m = 0 := by omega
        have z1 : sz m * sz m = 0 := by rw [z0]
        rw [b (by omega), z1]; rfl
theorem sq_ar : ∀ p : List Nat, arN (sqN sz Wd p) = (p.map (fun x => sz x * sz x)).sum
  | [] => rfl
  | x :: p => by
    have ih := sq_ar p
    show arN (sqN sz Wd p ++ [sqO (opN sz Wd p) (sz x)]) = sz x * sz x + (p.map (fun x => sz x * sz x)).sum
    rw [← ih]
    unfold arN
    rw [List.map_append, List.sum_append]
    show _ + (sz x * sz x + 0) = _
    omega
end
