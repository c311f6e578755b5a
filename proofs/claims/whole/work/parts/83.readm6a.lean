section
variable {T : Nat → Int32} {n : Nat}
theorem gNum_ok (hn : n ≤ 600) : ∀ k p c, p ≤ n → (gNum T n k p c).2.1 ≤ n ∧ ((gNum T n k p c).1 = 0 → ∀ v ∈ (gNum T n k p c).2.2, 1 ≤ v ∧ v < 10000) := by
  intro k
  induction k with
  | zero => exact fun p c hp => ⟨hp, fun _ v hv => absurd hv List.not_mem_nil⟩
  | succ k ih =>
    intro p c hp
    have he := tkE_le (T := T) hp
    have eg : gNum T n (k + 1) p c = if tkK T n p = 2 then (if tkV T n p < 1 then (ft T n p 3, p, []) else if 24 ≤ c then (ft T n p 4, p, []) else ((gNum T n k (tkE T n p) (c + 1)).1, (gNum T n k (tkE T n p) (c + 1)).2.1, tkV T n p :: (gNum T n k (tkE T n p) (c + 1)).2.2)) else if tkK T n p = 4 then (0, tkE T n p, []) else (ft T n p 1, p, []) := rfl
    rw [eg]
    by_cases k2 : tkK T n p = 2
    · rw [if_pos k2]
      by_cases v1 : tkV T n p < 1
      · rw [if_pos v1]; exact ⟨hp, fun _ v hv => absurd hv List.not_mem_nil⟩
      · rw [if_neg v1]
        by_cases c24 : 24 ≤ c
        · rw [if_pos c24]; exact ⟨hp, fun _ v hv => absurd hv List.not_mem_nil⟩
        · rw [if_neg c24]
          obtain ⟨a, b⟩ := ih (tkE T n p) (c + 1) he
          refine ⟨a, fun z v hv => ?_⟩
          rcases List.mem_cons.mp hv with e | hv
          · rw [e]; exact ⟨by omega, dN_lt (tk_2 k2).2⟩
          · exact b z v hv
    · rw [if_neg k2]
      by_cases k4 : tkK T n p = 4
      · rw [if_pos k4]; exact ⟨he, fun _ v hv => absurd hv List.not_mem_nil⟩
      · rw [if_neg k4]; exact ⟨hp, fun _ v hv => absurd hv List.not_mem_nil⟩
theorem gGr_ok (hn : n ≤ 600) {p c : Nat} (hp : p ≤ n) : (gGr T n p c).2.1 ≤ n ∧ ((gGr T n p c).1 = 0 → ∀ v ∈ (gGr T n p c).2.2, 1 ≤ v ∧ v < 10000) := by
  unfold gGr
  by_cases k2 : tkK T n (tkE T n p) = 2
  · rw [if_pos k2]; exact gNum_ok hn _ _ _ (tkE_le hp)
  · rw [if_neg k2]; exact ⟨hp, fun _ v hv => absurd hv List.not_mem_nil⟩
/-- the groups of a line: how many numbers, how large, in what order -/
theorem gGs_ok (hn : n ≤ 600) : ∀ k g p c, p ≤ n → c ≤ 24 → (gGs T n k g p c).2.1 ≤ n ∧ ((gGs T n k g p c).1 = 0 → c + (gGs T n k g p c).2.2.length ≤ 24 ∧ (∀ x ∈ (gGs T n k g p c).2.2, 1 ≤ x.1 ∧ x.1 < 10000 ∧ g ≤ x.2 ∧ x.2 < g + k) ∧ (gGs T n k g p c).2.2.Pairwise (fun a b => a.2 ≤ b.2)) := by
  intro k
  induction k with
  | zero => exact fun g p c hp hc => ⟨hp, fun _ => ⟨hc, fun x hx => absurd hx List.not_mem_nil, List.Pairwise.nil⟩⟩
  | succ k ih =>
    intro g p c hp hc
    have eg : gGs T n (k + 1) g p c = if tkK T n p = 3 then (if (gGr T n p c).1 = 0 then ((gGs T n k (g + 1) (gGr T n p c).2.1 (c + (gGr T n p c).2.2.length)).1, (gGs T n k (g + 1) (gGr T n p c).2.1 (c + (gGr T n p c).2.2.length)).2.1, (gGr T n p c).2.2.map (fun v => (v, g)) ++ (gGs T n k (g + 1) (gGr T n p c).2.1 (c + (gGr T n p c).2.2.length)).2.2) else ((gGr T n p c).1, p, [])) else (0, p, []) := rfl
    rw [eg]
    by_cases k3 : tkK T n p = 3
    · rw [if_pos k3]
      by_cases z : (gGr T n p c).1 = 0
      · rw [if_pos z]
        obtain ⟨a1, a2⟩ := gGr_ok (c := c) hn hp
        obtain ⟨b1, b2⟩ := gGr_len hn hp hc z
        obtain ⟨c1, c2⟩ := ih (g + 1) (gGr T n p c).2.1 (c + (gGr T n p c).2.2.length) a1 b2
        refine ⟨c1, fun y => ?_⟩
        obtain ⟨d1, d2, d3⟩ := c2 y
        refine ⟨?_, fun x hx => ?_, ?_⟩
        · show c + ((gGr T n p c).2.2.map (fun v => (v, g)) ++ _).length ≤ 24
          rw [List.length_append, List.length_map]
          omega
        · rcases List.mem_append.mp hx with hx | hx
          · obtain ⟨v, hv, e⟩ := List.mem_map.mp hx
            rw [← e]
            exact ⟨(a2 z v hv).1, (a2 z v hv).2, Nat.le_refl _, by show g < g + (k + 1); omega⟩
          · obtain ⟨e1, e2, e3, e4⟩ := d2 x hx
            exact ⟨e1, e2, by omega, by omega⟩
        · show List.Pairwise _ ((gGr T n p c).2.2.map (fun v => (v, g)) ++ _)
          rw [List.pairwise_append]
          refine ⟨?_, d3, fun a ha b hb => ?_⟩
          · rw [List.pairwise_map]
            exact List.pairwise_of_forall (fun _ _ => Nat.le_refl g)
          · obtain ⟨v, hv, e⟩ := List.mem_map.mp ha
            rw [← e]
            have := (d2 b hb).2.2.1
            show g ≤ b.2
            omega
      · rw [if_neg z]; exact ⟨hp, fun y => absurd y z⟩
    · rw [if_neg k3]; exact ⟨hp, fun _ => ⟨hc, fun x hx => absurd hx List.not_mem_nil, List.Pairwise.nil⟩⟩
theorem gDr_ok (hn : n ≤ 600) {p : Nat} (hp : p ≤ n) : (gDr T n p).2.1 ≤ n ∧ ((gDr T n p).1 = 0 → 1 ≤ (gDr T n p).2.2.length ∧ (gDr T n p).2.2.length ≤ 24 ∧ (∀ x ∈ (gDr T n p).2.2, 1 ≤ x.1 ∧ x.1 < 10000 ∧ x.2 < 25) ∧ (gDr T n p).2.2.Pairwise (fun a b => a.2 ≤ b.2)) := by
  unfold gDr
  by_cases k3 : tkK T n p = 3
  · rw [if_pos k3]
    obtain ⟨a, b⟩ := gGs_ok (T := T) hn 25 0 p 0 hp (by decide)
    refine ⟨a, fun z => ?_⟩
    obtain ⟨b1, b2, b3⟩ := b z
    refine ⟨?_, by omega, fun x hx => ⟨(b2 x hx).1, (b2 x hx).2.1, by have := (b2 x hx).2.2.2; omega⟩, b3⟩
    have eg : gGs T n 25 0 p 0 = if tkK T n p = 3 then (if (gGr T n p 0).1 = 0 then ((gGs T n 24 (0 + 1) (gGr T n p 0).2.1 (0 + (gGr T n p 0).2.2.length)).1, (gGs T n 24 (0 + 1) (gGr T n p 0).2.1 (0 + (gGr T n p 0).2.2.length)).2.1, (gGr T n p 0).2.2.map (fun v => (v, 0)) ++ (gGs T n 24 (0 + 1) (gGr T n p 0).2.1 (0 + (gGr T n p 0).2.2.length)).2.2) else ((gGr T n p 0).1, p, [])) else (0, p, []) := rfl
    rw [eg, if_pos k3] at z ⊢
    by_cases y : (gGr T n p 0).1 = 0
    · rw [if_pos y]
      show 1 ≤ ((gGr T n p 0).2.2.map (fun v => (v, 0)) ++ _).length
      rw [List.length_append, List.length_map]
      have := (gGr_len hn hp (by decide) y).1
      omega
    · rw [if_neg y] at z; exact absurd z y
  · rw [if_neg k3]; exact ⟨hp, fun z => absurd z (ft_1 hn hp)⟩
theorem nWs_ok (hn : n ≤ 600) (P : Nat) : ∀ k p w, k + w = 15 → w ≤ 14 → p ≤ n → (nWs T n P k p w).2.1 ≤ n ∧ ((nWs T n P k p w).1 = 0 → ∃ j, (nWs T n P k p w).2.2.length = 2 * j ∧ j + w ≤ 14 ∧ (∀ v ∈ (nWs T n P k p w).2.2, v < P) ∧ ∀ u, u < j → ¬ (nWs T n P k p w).2.2.getD (2 * u) 0 = (nWs T n P k p w).2.2.getD (2 * u + 1) 0) := by
  intro k
  induction k with
  | zero => intro p w h1 h2; omega
  | succ k ih =>
    intro p w hk hw hp
    have he := tkE_le (T := T) hp
    have he2 := tkE_le (T := T) he
    have eg : nWs T n P (k + 1) p w = if tkK T n p = 2 then (if P ≤ tkV T n p then (ft T n p 3, p, []) else if 14 ≤ w then (ft T n p 4, p, []) else if tkK T n (tkE T n p) = 2 then (if P ≤ tkV T n (tkE T n p) ∨ tkV T n (tkE T n p) = tkV T n p then (ft T n (tkE T n p) 3, p, []) else ((nWs T n P k (tkE T n (tkE T n p)) (w + 1)).1, (nWs T n P k (tkE T n (tkE T n p)) (w + 1)).2.1, tkV T n p :: tkV T n (tkE T n p) :: (nWs T n P k (tkE T n (tkE T n p)) (w + 1)).2.2)) else (ft T n (tkE T n p) 1, p, [])) else (0, p, []) := rfl
    rw [eg]
    by_cases k2 : tkK T n p = 2
    · rw [if_pos k2]
      by_cases v1 : P ≤ tkV T n p
      · rw [if_pos v1]; exact ⟨hp, fun z => absurd z (ft_3 hn hp)⟩
      · rw [if_neg v1]
        by_cases c14 : 14 ≤ w
        · rw [if_pos c14]; exact ⟨hp, fun z => absurd z (ft_4 hn hp)⟩
        · rw [if_neg c14]
          by_cases k3 : tkK T n (tkE T n p) = 2
          · rw [if_pos k3]
            by_cases q : P ≤ tkV T n (tkE T n p) ∨ tkV T n (tkE T n p) = tkV T n p
            · rw [if_pos q]; exact ⟨hp, fun z => absurd z (ft_3 hn he)⟩
            · rw [if_neg q]
              obtain ⟨a, b⟩ := ih (tkE T n (tkE T n p)) (w + 1) (by omega) (by omega) he2
              refine ⟨a, fun z => ?_⟩
              obtain ⟨j, b1, b2, b3, b4⟩ := b z
              refine ⟨j + 1, ?_, by omega, fun v hv => ?_, fun u hu => ?_⟩
              · show (nWs T n P k (tkE T n (tkE T n p)) (w + 1)).2.2.length + 1 + 1 = 2 * (j + 1)
                omega
              · rcases List.mem_cons.mp hv with e | hv
                · rw [e]; omega
                · rcases List.mem_cons.mp hv with e | hv
                  · rw [e]; omega
                  · exact b3 v hv
              · cases u with
                | zero =>
                  show ¬ tkV T n p = tkV T n (tkE T n p)
                  omega
                | succ u => exact b4 u (by omega)
          · rw [if_neg k3]; exact ⟨hp, fun z => absurd z (ft_1 hn he)⟩
    · rw [if_neg k2]
      exact ⟨hp, fun _ => ⟨0, rfl, by omega, fun v hv => absurd hv List.not_mem_nil, fun u hu => absurd hu (Nat.not_lt_zero u)⟩⟩
/-- what a line may tell -/
def LdOk (d : Ld) : Prop := (d.1 = 0 ∧ 1 ≤ d.2.1.length ∧ d.2.1.length ≤ 24 ∧ (∀ x ∈ d.2.1, 1 ≤ x.1 ∧ x.1 < 10000 ∧ x.2 < 25) ∧ d.2.1.Pairwise (fun a b => a.2 ≤ b.2) ∧ d.2.2.2 = []) ∨ (d.1 = 1 ∧ d.2.1 = [] ∧ 2 ≤ d.2.2.1 ∧ d.2.2.1 ≤ 9 ∧ ∃ j, d.2.2.2.length = 2 * j ∧ j ≤ 14 ∧ (∀ v ∈ d.2.2.2, v < d.2.2.1) ∧ ∀ u, u < j → ¬ d.2.2.2.getD (2 * u) 0 = d.2.2.2.getD (2 * u + 1) 0)
theorem lnR_good (hn : n ≤ 600) {Q : List Nat} {p : Nat} (hp : p ≤ n) : (lnR T n Q p).2.1 ≤ n ∧ ((lnR T n Q p).1 = 0 → LdOk (lnR T n Q p).2.2) := by
  have he := tkE_le (T := T) hp
  have he2 := tkE_le (T := T) he
  unfold lnR
  by_cases a : isDw T n p ∨ isNw T n p
  · rw [if_pos a]
    by_cases b : 6 ≤ Q.length
    · rw [if_pos b]; exact ⟨hp, fun z => absurd z (ft_4 hn hp)⟩
    · rw [if_neg b]
      by_cases c : tkK T n (tkE T n p) = 1 ∧ ¬ isDw T n (tkE T n p) ∧ ¬ isNw T n (tkE T n p)
      · rw [if_pos c]
        by_cases d : ∃ r ∈ Q, wW T n r = wW T n (tkE T n p)
        · rw [if_pos d]; exact ⟨hp, fun z => absurd z (ft_2 hn he)⟩
        · rw [if_neg d]
          by_cases e : isDw T n p
          · rw [if_pos e]
            unfold lnD
            obtain ⟨g1, g2⟩ := gDr_ok (T := T) hn he2
            by_cases z : (gDr T n (tkE T n (tkE T n p))).1 = 0
            · rw [if_pos z]
              by_cases k5 : tkK T n (gDr T n (tkE T n (tkE T n p))).2.1 = 5
              · rw [if_pos k5]
                refine ⟨tkE_le g1, fun _ => Or.inl ?_⟩
                obtain ⟨f1, f2, f3, f4⟩ := g2 z
                exact ⟨rfl, f1, f2, f3, f4, rfl⟩
              · rw [if_neg k5]; exact ⟨he2, fun y => absurd y (ft_1 hn g1)⟩
            · rw [if_neg z]; exact ⟨he2, fun y => absurd y z⟩
          · rw [if_neg e]
            unfold lnN
            by_cases z : (nNt T n (tkE T n (tkE T n p))).1 = 0
            · rw [if_pos z]
              unfold nNt at z ⊢
              by_cases k2 : tkK T n (tkE T n (tkE T n p)) = 2
              · rw [if_pos k2] at z ⊢
                by_cases v : tkV T n (tkE T n (tkE T n p)) < 2 ∨ 9 < tkV T n (tkE T n (tkE T n p))
                · rw [if_pos v] at z; exact absurd z (ft_3 hn he2)
                · rw [if_neg v] at z ⊢
                  obtain ⟨g1, g2⟩ := nWs_ok (T := T) hn (tkV T n (tkE T n (tkE T n p))) 15 (tkE T n (tkE T n (tkE T n p))) 0 (by decide) (by decide) (tkE_le he2)
                  by_cases k5 : tkK T n (nWs T n (tkV T n (tkE T n (tkE T n p))) 15 (tkE T n (tkE T n (tkE T n p))) 0).2.1 = 5
                  · rw [if_pos k5]
                    refine ⟨tkE_le g1, fun _ => Or.inr ?_⟩
                    obtain ⟨j, f1, f2, f3, f4⟩ := g2 z
                    refine ⟨rfl, rfl, ?_, ?_, j, f1, by omega, f3, f4⟩
                    · show 2 ≤ tkV T n (tkE T n (tkE T n p)); omega
                    · show tkV T n (tkE T n (tkE T n p)) ≤ 9; omega
                  · rw [if_neg k5]; exact ⟨he2, fun y => absurd y (ft_1 hn g1)⟩
              · rw [if_neg k2] at z; exact absurd z (ft_1 hn he2)
            · rw [if_neg z]; exact ⟨he2, fun y => absurd y z⟩
      · rw [if_neg c]; exact ⟨hp, fun z => absurd z (ft_1 hn he)⟩
  · rw [if_neg a]; exact ⟨hp, fun z => absurd z (ft_1 hn hp)⟩
theorem rdR_good (hn : n ≤ 600) : ∀ k (Q : List Nat) (D : List Ld) p, p ≤ n → (∀ d ∈ D, LdOk d) → ∀ d ∈ (rdR T n k Q D p).2.2, LdOk d := by
  intro k
  induction k with
  | zero => exact fun Q D p _ h => h
  | succ k ih =>
    intro Q D p hp h
    have eg : rdR T n (k + 1) Q D p = if tkK T n p = 0 then (0, Q, D) else if (lnR T n Q p).1 = 0 then rdR T n k (Q ++ [tkE T n p]) (D ++ [(lnR T n Q p).2.2]) (lnR T n Q p).2.1 else ((lnR T n Q p).1, Q, D) := rfl
    rw [eg]
    obtain ⟨a, b⟩ := lnR_good (T := T) (Q := Q) hn hp
    by_cases k0 : tkK T n p = 0
    · rw [if_pos k0]; exact h
    · rw [if_neg k0]
      by_cases z : (lnR T n Q p).1 = 0
      · rw [if_pos z]
        refine ih _ _ _ a (fun d hd => ?_)
        rcases List.mem_append.mp hd with hd | hd
        · exact h d hd
        · rw [List.mem_singleton.mp hd]; exact b z
      · rw [if_neg z]; exact h
end
