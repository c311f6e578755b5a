theorem ft_1 {T : Nat → Int32} {n p : Nat} (hn : n ≤ 600) (hp : p ≤ n) : ¬ ft T n p 1 = 0 := ft_ne (k := 1) hn hp (by decide) (by decide)
theorem ft_2 {T : Nat → Int32} {n p : Nat} (hn : n ≤ 600) (hp : p ≤ n) : ¬ ft T n p 2 = 0 := ft_ne (k := 2) hn hp (by decide) (by decide)
theorem ft_3 {T : Nat → Int32} {n p : Nat} (hn : n ≤ 600) (hp : p ≤ n) : ¬ ft T n p 3 = 0 := ft_ne (k := 3) hn hp (by decide) (by decide)
theorem ft_4 {T : Nat → Int32} {n p : Nat} (hn : n ≤ 600) (hp : p ≤ n) : ¬ ft T n p 4 = 0 := ft_ne (k := 4) hn hp (by decide) (by decide)
/-- the wires of a net; a net -/
def nWs (T : Nat → Int32) (n P : Nat) : Nat → Nat → Nat → Int32 × Nat × List Nat
  | 0, p, _ => (0, p, [])
  | k + 1, p, w => if tkK T n p = 2 then (if P ≤ tkV T n p then (ft T n p 3, p, []) else if 14 ≤ w then (ft T n p 4, p, []) else if tkK T n (tkE T n p) = 2 then (if P ≤ tkV T n (tkE T n p) ∨ tkV T n (tkE T n p) = tkV T n p then (ft T n (tkE T n p) 3, p, []) else ((nWs T n P k (tkE T n (tkE T n p)) (w + 1)).1, (nWs T n P k (tkE T n (tkE T n p)) (w + 1)).2.1, tkV T n p :: tkV T n (tkE T n p) :: (nWs T n P k (tkE T n (tkE T n p)) (w + 1)).2.2)) else (ft T n (tkE T n p) 1, p, [])) else (0, p, [])
def nNt (T : Nat → Int32) (n p : Nat) : Int32 × Nat × Nat × List Nat := if tkK T n p = 2 then (if tkV T n p < 2 ∨ 9 < tkV T n p then (ft T n p 3, p, 0, []) else ((nWs T n (tkV T n p) 15 (tkE T n p) 0).1, (nWs T n (tkV T n p) 15 (tkE T n p) 0).2.1, tkV T n p, (nWs T n (tkV T n p) 15 (tkE T n p) 0).2.2)) else (ft T n p 1, p, 0, [])
/-- numbers put behind the first c -/
def PutN (M M' : am_Mem) (t c : Nat) (L : List Nat) : Prop := am_I M' 6 t = nI (c + L.length) ∧ (∀ i, i < c → am_I M' (8 + t) i = am_I M (8 + t) i) ∧ ∀ i (h : i < L.length), am_I M' (8 + t) (c + i) = nI (L[i])
theorem pun_app {M M1 M2 : am_Mem} {t c : Nat} {L K : List Nat} (h : PutN M M1 t c L) (g : PutN M1 M2 t (c + L.length) K) : PutN M M2 t c (L ++ K) := by
  refine ⟨by rw [g.1, List.length_append, Nat.add_assoc], fun i hi => (g.2.1 i (by omega)).trans (h.2.1 i hi), fun i hi => ?_⟩
  rw [List.length_append] at hi
  by_cases q : i < L.length
  · rw [List.getElem_append_left q]
    exact (g.2.1 (c + i) (by omega)).trans (h.2.2 i q)
  · have a := g.2.2 (i - L.length) (by omega)
    have e : c + L.length + (i - L.length) = c + i := by omega
    rw [e] at a
    rw [List.getElem_append_right (by omega)]
    exact a
theorem pun_nx {M M1 M2 : am_Mem} {t c : Nat} {L : List Nat} (h : PutN M M1 t c L) (f : Fs [2] M1 M2) : PutN M M2 t c L := by
  refine ⟨by rw [fs_I f (by decide)]; exact h.1, fun i hi => ?_, fun i hi => ?_⟩
  · rw [fs_I f (by rw [List.mem_singleton]; omega)]; exact h.2.1 i hi
  · rw [fs_I f (by rw [List.mem_singleton]; omega)]; exact h.2.2 i hi
section
variable {T : Nat → Int32} {n t : Nat}
/-- the class holds the value and takes one token on -/
theorem hn_c {N p c : Nat} {M : am_Mem} (hN : 100000 ≤ N) (hn : n ≤ 600) (ht : t < 6) (hc : c < 29) (h : CAt T n p M) (k : tkK T n p = 2) (e8 : am_I M 2 8 = nI t) (e6 : am_I M 6 t = nI c) : ∃ M1 M2, fn8_holdValue M 2 = some ((), M1) ∧ am_K M1 2 = 8 ∧ fn8_nextToken N M1 2 = some ((), M2) ∧ RdF M M2 t ∧ CAt T n (tkE T n p) M2 ∧ PutN M M2 t c [tkV T n p] ∧ am_I M2 2 8 = nI t := by
  have hh := hv_c ht hc h k e8 e6
  have f2 : Fs [2, 6, 8 + t, 15 + t] M (am_wI (am_wI M (8 + t) c (nI (tkV T n p))) 6 t (nI (c + 1))) := fs_trans (fs_wI _ _ _ (by simp)) (fs_wI _ _ _ (by simp))
  have f3 : Fs [6, 8 + t] M (am_wI (am_wI M (8 + t) c (nI (tkV T n p))) 6 t (nI (c + 1))) := fs_trans (fs_wI _ _ _ (by simp)) (fs_wI _ _ _ (by simp))
  have p2 : PutN M (am_wI (am_wI M (8 + t) c (nI (tkV T n p))) 6 t (nI (c + 1))) t c [tkV T n p] := by
    refine ⟨rI_eq _ _ _ _, fun i hi => ?_, fun i hi => ?_⟩
    · rw [rI_ne _ _ _ (by omega), rI_ix _ _ _ (by omega)]
    · have : i = 0 := by
        have : i < 1 := hi
        omega
      subst this
      rw [rI_ne _ _ _ (by omega)]
      exact rI_eq _ _ _ _
  have r2 : RdF M (am_wI (am_wI M (8 + t) c (nI (tkV T n p))) 6 t (nI (c + 1))) t := by
    refine ⟨f2, fun y _ _ _ => ?_, fun u hu => ?_⟩
    · rw [rI_ne _ _ _ (by omega), rI_ne _ _ _ (by omega)]
    · rw [rI_ix _ _ _ hu, rI_ne _ _ _ (by omega)]
  have h2 : CAt T n p (am_wI (am_wI M (8 + t) c (nI (tkV T n p))) 6 t (nI (c + 1))) := ca_fs h f3 (by simp; omega) (by simp; omega)
  obtain ⟨M3, a1, a2, a3, a4⟩ := ca_nx hN hn h2
  have r3 := rdf_trans r2 (rdf_nx t a2 a3)
  exact ⟨_, M3, hh, sk2 h2.1, a1, r3, a4, pun_nx p2 a2, (r3.2.1 8 (by decide) (by decide) (by decide)).trans e8⟩
theorem ws_c {N P : Nat} (hN : 100000 ≤ N) (hn : n ≤ 600) (ht : t < 6) (hP : P < 10000) : ∀ k p w fuel M, k + w = 15 → w ≤ 14 → k < fuel → CAt T n p M → am_I M 2 8 = nI t → am_I M 6 t = nI (1 + 2 * w) → ∃ M', fn8_readNet_b57 N fuel 2 (lN P) (nI w) M = some ((nWs T n P k p w).1, M') ∧ RdF M M' t ∧ ((nWs T n P k p w).1 = 0 → CAt T n (nWs T n P k p w).2.1 M' ∧ PutN M M' t (1 + 2 * w) (nWs T n P k p w).2.2 ∧ ∃ j, (nWs T n P k p w).2.2.length = 2 * j ∧ w + j ≤ 14 ∧ ∀ v ∈ (nWs T n P k p w).2.2, v < P) := by
  intro k
  induction k with
  | zero => intro p w fuel M h1 h2; omega
  | succ k ih =>
    intro p w fuel M hk hw hf h e8 e6
    obtain ⟨q, rfl⟩ : ∃ q, fuel = q + 1 := ⟨fuel - 1, by omega⟩
    have s := h.1
    have hp := h.2.2.1
    have hw14 : ¬ (14 : Int32) < nI w := Int32.not_lt.mpr (show nI w ≤ nI 14 from nI_le hw (by decide))
    have eg : nWs T n P (k + 1) p w = if tkK T n p = 2 then (if P ≤ tkV T n p then (ft T n p 3, p, []) else if 14 ≤ w then (ft T n p 4, p, []) else if tkK T n (tkE T n p) = 2 then (if P ≤ tkV T n (tkE T n p) ∨ tkV T n (tkE T n p) = tkV T n p then (ft T n (tkE T n p) 3, p, []) else ((nWs T n P k (tkE T n (tkE T n p)) (w + 1)).1, (nWs T n P k (tkE T n (tkE T n p)) (w + 1)).2.1, tkV T n p :: tkV T n (tkE T n p) :: (nWs T n P k (tkE T n (tkE T n p)) (w + 1)).2.2)) else (ft T n (tkE T n p) 1, p, [])) else (0, p, []) := rfl
    rw [eg]
    show ∃ M', fn8_readNet_b57B N (fn8_readNet_b57 N q) 2 (lN P) (nI w) M = _ ∧ _
    unfold fn8_readNet_b57B fn8_readNet_b93 fn8_readWire fn8_readWire_b0 fn8_readWire_b6
    rw [if_neg hw14, nk_k, sk2 s, nk_dd, ca_k h]
    by_cases k2 : tkK T n p = 2
    · rw [if_pos k2, if_pos k2]
      obtain ⟨v, vl⟩ := ca_v h k2
      rw [nk_dd, v]
      by_cases v1 : P ≤ tkV T n p
      · have hv : ¬ lg_cmp (lN (tkV T n p)) (lN P) < 0 := by
          rw [lg_cmp_lt, lN_lt (by omega) (by omega)]
          omega
        rw [if_pos v1, if_neg hv, nk_dd, ca_ft h, nk_bd, nk_bd, if_neg (ft_3 hn hp)]
        exact ⟨M, rfl, rdf_refl M t, fun z => absurd z (ft_ne (k := 3) hn hp (by decide) (by decide))⟩
      · have hv : lg_cmp (lN (tkV T n p)) (lN P) < 0 := by
          rw [lg_cmp_lt, lN_lt (by omega) (by omega)]
          omega
        rw [if_neg v1, if_pos hv]
        by_cases c14 : 14 ≤ w
        · rw [if_pos c14, if_neg (show ¬ nI w < (14 : Int32) from Int32.not_lt.mpr (show nI 14 ≤ nI w from nI_le c14 (by omega))), nk_dd, ca_ft h, nk_bd, nk_bd, if_neg (ft_4 hn hp)]
          exact ⟨M, rfl, rdf_refl M t, fun z => absurd z (ft_ne (k := 4) hn hp (by decide) (by decide))⟩
        · rw [if_neg c14, if_pos (show nI w < (14 : Int32) from nI_lt (b := 14) (by omega) (by decide))]
          obtain ⟨Ma, M1, b1, bk, b2, b3, b4, b5, b6⟩ := hn_c (N := N) hN hn ht (by omega) h k2 e8 e6
          rw [nk_dd, b1, nk_bd, nk_k, bk, nk_dd, b2, nk_bd, nk_k, sk2 b4.1, nk_dd, ca_k b4]
          have he := b4.2.2.1
          by_cases k3 : tkK T n (tkE T n p) = 2
          · rw [if_pos k3, if_pos k3]
            obtain ⟨u, ul⟩ := ca_v b4 k3
            have u1 : (0 ≤ lg_cmp (lN (tkV T n (tkE T n p))) (lN P)) ↔ P ≤ tkV T n (tkE T n p) := by rw [lg_cmp_ge, lN_le (by omega) (by omega)]
            have u2 : (lg_cmp (lN (tkV T n (tkE T n p))) (lN (tkV T n p)) = 0) ↔ tkV T n (tkE T n p) = tkV T n p := by rw [lg_cmp_eq, lN_eq (by omega) (by omega)]
            unfold fn8_readWire_b72
            rw [u]
            have bad : (P ≤ tkV T n (tkE T n p) ∨ tkV T n (tkE T n p) = tkV T n p) → ∃ M', (am_bd (am_ck (am_k M1 2 8) (am_bd (fn8_faultOf M1 2 3) (fun v2 M3 => some (v2, M3)))) (fun v2 M3 => if v2 = 0 then fn8_readNet_b57 N q 2 (lN P) (nI w + 1) M3 else some (v2, M3)) : Option (Int32 × am_Mem)) = some ((ft T n (tkE T n p) 3, p, ([] : List Nat)).1, M') ∧ RdF M M' t ∧ ((ft T n (tkE T n p) 3, p, ([] : List Nat)).1 = 0 → CAt T n p M' ∧ PutN M M' t (1 + 2 * w) [] ∧ ∃ j, ([] : List Nat).length = 2 * j ∧ w + j ≤ 14 ∧ ∀ v ∈ ([] : List Nat), v < P) := by
              intro _
              rw [nk_k, sk2 b4.1, nk_dd, ca_ft b4, nk_bd, nk_bd, if_neg (ft_3 hn he)]
              exact ⟨M1, rfl, b3, fun z => absurd z (ft_ne (k := 3) hn he (by decide) (by decide))⟩
            by_cases q1 : P ≤ tkV T n (tkE T n p)
            · rw [if_pos (u1.mpr q1), if_pos (Or.inl q1)]
              exact bad (Or.inl q1)
            · rw [if_neg (fun z => q1 (u1.mp z))]
              by_cases q2 : tkV T n (tkE T n p) = tkV T n p
              · rw [if_pos (u2.mpr q2), if_pos (Or.inr q2)]
                exact bad (Or.inr q2)
              · rw [if_neg (fun z => q2 (u2.mp z)), if_neg (fun z => z.elim q1 q2)]
                obtain ⟨Mb, M2, d1, dk, d2, d3, d4, d5, d6⟩ := hn_c (N := N) (c := 1 + 2 * w + 1) hN hn ht (by omega) b4 k3 b6 b5.1
                obtain ⟨M3, f1, f2, f3⟩ := ih (tkE T n (tkE T n p)) (w + 1) q M2 (by omega) (by omega) (by omega) d4 d6 (by rw [d5.1]; exact congrArg nI (by show 1 + 2 * w + 1 + 1 = 1 + 2 * (w + 1); omega))
                refine ⟨M3, ?_, rdf_trans b3 (rdf_trans d3 f2), fun z => ?_⟩
                · rw [d1, nk_bd, nk_k, dk, nk_dd, d2, nk_bd, nk_bd, if_pos rfl, nI_1, f1]
                · obtain ⟨g1, g2, j, g3, g4, g5⟩ := f3 z
                  refine ⟨g1, ?_, j + 1, ?_, by omega, ?_⟩
                  · have h1 := pun_app (L := [tkV T n p]) b5 d5
                    exact pun_app (L := [tkV T n p] ++ [tkV T n (tkE T n p)]) h1 (show PutN M2 M3 t (1 + 2 * w + 2) _ from by
                      have e : 1 + 2 * w + 2 = 1 + 2 * (w + 1) := by omega
                      rw [e]; exact g2)
                  · show (tkV T n p :: tkV T n (tkE T n p) :: (nWs T n P k (tkE T n (tkE T n p)) (w + 1)).2.2).length = 2 * (j + 1)
                    rw [List.length_cons, List.length_cons, g3]
                    omega
                  · intro x hx
                    rcases List.mem_cons.mp hx with e | hx
                    · rw [e]; omega
                    · rcases List.mem_cons.mp hx with e | hx
                      · rw [e]; omega
                      · exact g5 x hx
          · rw [if_neg k3, if_neg k3, ca_ft b4, nk_bd, nk_bd, if_neg (ft_1 hn he)]
            exact ⟨M1, rfl, b3, fun z => absurd z (ft_ne (k := 1) hn he (by decide) (by decide))⟩
    · rw [if_neg k2, if_neg k2]
      exact ⟨M, rfl, rdf_refl M t, fun _ => ⟨h, ⟨e6, fun _ _ => rfl, fun i hi => absurd hi (Nat.not_lt_zero i)⟩, 0, rfl, by omega, fun v hv => absurd hv List.not_mem_nil⟩⟩
end
