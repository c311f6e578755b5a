/-- a group, its opening sign at p; the groups of a line -/
def gGr (T : Nat → Int32) (n p c : Nat) : Int32 × Nat × List Nat := if tkK T n (tkE T n p) = 2 then gNum T n (25 - c) (tkE T n p) c else (ft T n (tkE T n p) 1, p, [])
def gGs (T : Nat → Int32) (n : Nat) : Nat → Nat → Nat → Nat → Int32 × Nat × List (Nat × Nat)
  | 0, _, p, _ => (0, p, [])
  | k + 1, g, p, c => if tkK T n p = 3 then (if (gGr T n p c).1 = 0 then ((gGs T n k (g + 1) (gGr T n p c).2.1 (c + (gGr T n p c).2.2.length)).1, (gGs T n k (g + 1) (gGr T n p c).2.1 (c + (gGr T n p c).2.2.length)).2.1, (gGr T n p c).2.2.map (fun v => (v, g)) ++ (gGs T n k (g + 1) (gGr T n p c).2.1 (c + (gGr T n p c).2.2.length)).2.2) else ((gGr T n p c).1, p, [])) else (0, p, [])
def gDr (T : Nat → Int32) (n p : Nat) : Int32 × Nat × List (Nat × Nat) := if tkK T n p = 3 then gGs T n 25 0 p 0 else (ft T n p 1, p, [])
section
variable {T : Nat → Int32} {n t : Nat}
theorem gNum_len (hn : n ≤ 600) : ∀ k p c, p ≤ n → c ≤ 24 → (gNum T n k p c).1 = 0 → c + (gNum T n k p c).2.2.length ≤ 24 := by
  intro k
  induction k with
  | zero => intro p c _ hc _; exact hc
  | succ k ih =>
    intro p c hp hc
    have eg : gNum T n (k + 1) p c = if tkK T n p = 2 then (if tkV T n p < 1 then (ft T n p 3, p, []) else if 24 ≤ c then (ft T n p 4, p, []) else ((gNum T n k (tkE T n p) (c + 1)).1, (gNum T n k (tkE T n p) (c + 1)).2.1, tkV T n p :: (gNum T n k (tkE T n p) (c + 1)).2.2)) else if tkK T n p = 4 then (0, tkE T n p, []) else (ft T n p 1, p, []) := rfl
    rw [eg]
    by_cases k2 : tkK T n p = 2
    · rw [if_pos k2]
      by_cases v1 : tkV T n p < 1
      · rw [if_pos v1]; exact fun z => absurd z (ft_ne (k := 3) hn hp (by decide) (by decide))
      · rw [if_neg v1]
        by_cases c24 : 24 ≤ c
        · rw [if_pos c24]; exact fun z => absurd z (ft_ne (k := 4) hn hp (by decide) (by decide))
        · rw [if_neg c24]
          intro z
          have := ih (tkE T n p) (c + 1) (tkE_le hp) (by omega) z
          show c + (tkV T n p :: (gNum T n k (tkE T n p) (c + 1)).2.2).length ≤ 24
          rw [List.length_cons]
          omega
    · rw [if_neg k2]
      by_cases k4 : tkK T n p = 4
      · rw [if_pos k4]; exact fun _ => hc
      · rw [if_neg k4]; exact fun z => absurd z (ft_ne (k := 1) hn hp (by decide) (by decide))
theorem gGr_len (hn : n ≤ 600) {p c : Nat} (hp : p ≤ n) (hc : c ≤ 24) (z : (gGr T n p c).1 = 0) : 1 ≤ (gGr T n p c).2.2.length ∧ c + (gGr T n p c).2.2.length ≤ 24 := by
  have he := tkE_le (T := T) hp
  unfold gGr at z ⊢
  by_cases k2 : tkK T n (tkE T n p) = 2
  · rw [if_pos k2] at z ⊢
    refine ⟨?_, gNum_len hn _ _ _ he hc z⟩
    obtain ⟨k, hk⟩ : ∃ k, 25 - c = k + 1 := ⟨24 - c, by omega⟩
    rw [hk] at z ⊢
    have eg : gNum T n (k + 1) (tkE T n p) c = if tkK T n (tkE T n p) = 2 then (if tkV T n (tkE T n p) < 1 then (ft T n (tkE T n p) 3, (tkE T n p), []) else if 24 ≤ c then (ft T n (tkE T n p) 4, (tkE T n p), []) else ((gNum T n k (tkE T n (tkE T n p)) (c + 1)).1, (gNum T n k (tkE T n (tkE T n p)) (c + 1)).2.1, tkV T n (tkE T n p) :: (gNum T n k (tkE T n (tkE T n p)) (c + 1)).2.2)) else if tkK T n (tkE T n p) = 4 then (0, tkE T n (tkE T n p), []) else (ft T n (tkE T n p) 1, (tkE T n p), []) := rfl
    rw [eg, if_pos k2] at z ⊢
    by_cases v1 : tkV T n (tkE T n p) < 1
    · rw [if_pos v1] at z; exact absurd z (ft_ne (k := 3) hn he (by decide) (by decide))
    · rw [if_neg v1] at z ⊢
      by_cases c24 : 24 ≤ c
      · rw [if_pos c24] at z; exact absurd z (ft_ne (k := 4) hn he (by decide) (by decide))
      · rw [if_neg c24]
        exact Nat.succ_le_of_lt (Nat.zero_lt_succ _)
  · rw [if_neg k2] at z; exact absurd z (ft_ne (k := 1) hn he (by decide) (by decide))
theorem gr_c {N g p c : Nat} {M : am_Mem} (hN : 100000 ≤ N) (hn : n ≤ 600) (ht : t < 6) (hc : c ≤ 24) (h : CAt T n p M) (e8 : am_I M 2 8 = nI t) (e6 : am_I M 6 t = nI c) : ∃ M', fn8_readGroup N M 2 (nI g) = some ((gGr T n p c).1, M') ∧ RdF M M' t ∧ ((gGr T n p c).1 = 0 → CAt T n (gGr T n p c).2.1 M' ∧ PutC M M' t c ((gGr T n p c).2.2.map (fun v => (v, g)))) := by
  obtain ⟨M1, a1, a2, a3, a4⟩ := ca_nx hN hn h
  have r1 := rdf_nx t a2 a3
  have e81 : am_I M1 2 8 = nI t := (a3 8 (by decide) (by decide) (by decide)).trans e8
  have e61 : am_I M1 6 t = nI c := by rw [fs_I a2 (by decide)]; exact e6
  have m8 : am_I M1 (8 + t) = am_I M (8 + t) := fs_I a2 (by rw [List.mem_singleton]; omega)
  have m15 : am_I M1 (15 + t) = am_I M (15 + t) := fs_I a2 (by rw [List.mem_singleton]; omega)
  unfold fn8_readGroup fn8_readGroup_b0 gGr
  rw [nk_k, sk2 h.1, nk_dd, a1, nk_bd, nk_k, sk2 a4.1, nk_dd, ca_k a4]
  by_cases k2 : tkK T n (tkE T n p) = 2
  · rw [if_pos k2, if_pos k2]
    obtain ⟨M2, b1, b2, b3⟩ := gn_c (g := g) (N := N) hN hn ht (25 - c) (tkE T n p) c 0 N M1 (by omega) hc (Nat.zero_le _) (by omega) a4 e81 e61
    refine ⟨M2, b1, rdf_trans r1 b2, fun z => ⟨(b3 z).1, ?_⟩⟩
    obtain ⟨d1, d2, d3⟩ := (b3 z).2
    exact ⟨d1, fun i hi => by rw [← m8, ← m15]; exact d2 i hi, d3⟩
  · rw [if_neg k2, if_neg k2, ca_ft a4, nk_bd]
    exact ⟨M1, rfl, r1, fun z => absurd z (ft_ne (k := 1) hn a4.2.2.1 (by decide) (by decide))⟩
theorem gs_c {N : Nat} (hN : 100000 ≤ N) (hn : n ≤ 600) (ht : t < 6) : ∀ k g p c fuel M, k + g = 25 → g ≤ c → c ≤ 24 → k < fuel → CAt T n p M → am_I M 2 8 = nI t → am_I M 6 t = nI c → ∃ M', fn8_readGroups_b16 N fuel 2 (nI g) M = some ((gGs T n k g p c).1, M') ∧ RdF M M' t ∧ ((gGs T n k g p c).1 = 0 → CAt T n (gGs T n k g p c).2.1 M' ∧ PutC M M' t c (gGs T n k g p c).2.2 ∧ c + (gGs T n k g p c).2.2.length ≤ 24) := by
  intro k
  induction k with
  | zero => intro g p c fuel M h1 h2 h3; omega
  | succ k ih =>
    intro g p c fuel M hk hg hc hf h e8 e6
    obtain ⟨q, rfl⟩ : ∃ q, fuel = q + 1 := ⟨fuel - 1, by omega⟩
    have s := h.1
    have hg24 : ¬ (24 : Int32) < nI g := Int32.not_lt.mpr (show nI g ≤ nI 24 from nI_le (by omega) (by decide))
    have eg : gGs T n (k + 1) g p c = if tkK T n p = 3 then (if (gGr T n p c).1 = 0 then ((gGs T n k (g + 1) (gGr T n p c).2.1 (c + (gGr T n p c).2.2.length)).1, (gGs T n k (g + 1) (gGr T n p c).2.1 (c + (gGr T n p c).2.2.length)).2.1, (gGr T n p c).2.2.map (fun v => (v, g)) ++ (gGs T n k (g + 1) (gGr T n p c).2.1 (c + (gGr T n p c).2.2.length)).2.2) else ((gGr T n p c).1, p, [])) else (0, p, []) := rfl
    rw [eg]
    show ∃ M', fn8_readGroups_b16B N (fn8_readGroups_b16 N q) 2 (nI g) M = _ ∧ _
    unfold fn8_readGroups_b16B fn8_readGroups_b48
    rw [if_neg hg24, nk_k, sk2 s, nk_dd, ca_k h]
    by_cases k3 : tkK T n p = 3
    · rw [if_pos k3, if_pos k3]
      obtain ⟨M1, a1, a2, a3⟩ := gr_c (g := g) hN hn ht hc h e8 e6
      rw [a1, nk_bd]
      by_cases z : (gGr T n p c).1 = 0
      · rw [if_pos z, if_pos z]
        obtain ⟨l1, l2⟩ := gGr_len hn h.2.2.1 hc z
        obtain ⟨b1, b2⟩ := a3 z
        have e61 := b2.1
        rw [List.length_map] at e61
        obtain ⟨M2, d1, d2, d3⟩ := ih (g + 1) (gGr T n p c).2.1 (c + (gGr T n p c).2.2.length) q M1 (by omega) (by omega) l2 (by omega) b1 ((a2.2.1 8 (by decide) (by decide) (by decide)).trans e8) e61
        refine ⟨M2, by rw [nI_1]; exact d1, rdf_trans a2 d2, fun z2 => ?_⟩
        obtain ⟨f1, f2, f3⟩ := d3 z2
        refine ⟨f1, put_app b2 (by rw [List.length_map]; exact f2), ?_⟩
        show c + ((gGr T n p c).2.2.map (fun v => (v, g)) ++ (gGs T n k (g + 1) (gGr T n p c).2.1 (c + (gGr T n p c).2.2.length)).2.2).length ≤ 24
        rw [List.length_append, List.length_map]
        omega
      · rw [if_neg z, if_neg z]
        exact ⟨M1, rfl, a2, fun z2 => absurd z2 z⟩
    · rw [if_neg k3, if_neg k3]
      exact ⟨M, rfl, rdf_refl M t, fun _ => ⟨h, put_nil e6 rfl rfl, hc⟩⟩
theorem dr_c {N p : Nat} {M : am_Mem} (hN : 100000 ≤ N) (hn : n ≤ 600) (ht : t < 6) (h : CAt T n p M) (e8 : am_I M 2 8 = nI t) (e6 : am_I M 6 t = nI 0) : ∃ M', fn8_readGroups N M 2 = some ((gDr T n p).1, M') ∧ RdF M M' t ∧ ((gDr T n p).1 = 0 → CAt T n (gDr T n p).2.1 M' ∧ PutC M M' t 0 (gDr T n p).2.2 ∧ (gDr T n p).2.2.length ≤ 24) := by
  unfold fn8_readGroups fn8_readGroups_b0 gDr
  rw [nk_k, sk2 h.1, nk_dd, ca_k h]
  by_cases k3 : tkK T n p = 3
  · rw [if_pos k3, if_pos k3]
    obtain ⟨M1, a1, a2, a3⟩ := gs_c (N := N) hN hn ht 25 0 p 0 N M (by omega) (by omega) (by omega) (by omega) h e8 e6
    refine ⟨M1, a1, a2, fun z => ?_⟩
    obtain ⟨b1, b2, b3⟩ := a3 z
    exact ⟨b1, b2, by omega⟩
  · rw [if_neg k3, if_neg k3, ca_ft h, nk_bd]
    exact ⟨M, rfl, rdf_refl M t, fun z => absurd z (ft_ne (k := 1) hn h.2.2.1 (by decide) (by decide))⟩
end
