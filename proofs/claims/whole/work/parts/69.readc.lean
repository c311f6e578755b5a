theorem ft_ne {T : Nat → Int32} {n p k : Nat} (hn : n ≤ 600) (hp : p ≤ n) (h1 : 1 ≤ k) (h7 : k ≤ 7) : ¬ ft T n p (nI k) = 0 := by
  have hs := tkS_le (T := T) hp
  unfold ft
  rw [show (8 : Int32) * nI (tkS T n p) = nI (8 * tkS T n p) from (Int32.ofNat_mul 8 _).symm, lw_add]
  exact nI_ne0 (by omega) (by omega)
/-- what reading a line leaves as it was -/
def RdF (M M' : am_Mem) (t : Nat) : Prop := Fs [2, 6, 8 + t, 15 + t] M M' ∧ (∀ x, ¬ x = 2 → ¬ x = 3 → ¬ x = 4 → am_I M' 2 x = am_I M 2 x) ∧ ∀ u, ¬ u = t → am_I M' 6 u = am_I M 6 u
theorem rdf_refl (M : am_Mem) (t : Nat) : RdF M M t := ⟨fs_refl _ _, fun _ _ _ _ => rfl, fun _ _ => rfl⟩
theorem rdf_trans {M M1 M2 : am_Mem} {t : Nat} (h : RdF M M1 t) (g : RdF M1 M2 t) : RdF M M2 t :=
  ⟨fs_trans h.1 g.1, fun x a b c => (g.2.1 x a b c).trans (h.2.1 x a b c), fun u a => (g.2.2 u a).trans (h.2.2 u a)⟩
theorem rdf_nx {M M' : am_Mem} (t : Nat) (f : Fs [2] M M') (o : ∀ x, ¬ x = 2 → ¬ x = 3 → ¬ x = 4 → am_I M' 2 x = am_I M 2 x) : RdF M M' t :=
  ⟨fs_mono f (fun a ha => by rw [List.mem_singleton] at ha; rw [ha]; exact List.mem_cons_self), o, fun u _ => by rw [fs_I f (by decide)]⟩
/-- numbers and their groups, put behind the first c -/
def PutC (M M' : am_Mem) (t c : Nat) (L : List (Nat × Nat)) : Prop := am_I M' 6 t = nI (c + L.length) ∧ (∀ i, i < c → am_I M' (8 + t) i = am_I M (8 + t) i ∧ am_I M' (15 + t) i = am_I M (15 + t) i) ∧ ∀ i (h : i < L.length), am_I M' (8 + t) (c + i) = nI (L[i]).1 ∧ am_I M' (15 + t) (c + i) = nI (L[i]).2
theorem put_nil {M M' : am_Mem} {t c : Nat} (e : am_I M' 6 t = nI c) (e1 : am_I M' (8 + t) = am_I M (8 + t)) (e2 : am_I M' (15 + t) = am_I M (15 + t)) : PutC M M' t c [] :=
  ⟨e, fun i _ => ⟨by rw [e1], by rw [e2]⟩, fun i h => absurd h (Nat.not_lt_zero i)⟩
theorem put_app {M M1 M2 : am_Mem} {t c : Nat} {L K : List (Nat × Nat)} (h : PutC M M1 t c L) (g : PutC M1 M2 t (c + L.length) K) : PutC M M2 t c (L ++ K) := by
  refine ⟨by rw [g.1, List.length_append, Nat.add_assoc], fun i hi => ?_, fun i hi => ?_⟩
  · obtain ⟨a, b⟩ := g.2.1 i (by omega)
    obtain ⟨a', b'⟩ := h.2.1 i hi
    exact ⟨a.trans a', b.trans b'⟩
  · rw [List.length_append] at hi
    by_cases q : i < L.length
    · obtain ⟨a, b⟩ := g.2.1 (c + i) (by omega)
      obtain ⟨a', b'⟩ := h.2.2 i q
      rw [List.getElem_append_left q]
      exact ⟨a.trans a', b.trans b'⟩
    · obtain ⟨a, b⟩ := g.2.2 (i - L.length) (by omega)
      have e : c + L.length + (i - L.length) = c + i := by omega
      rw [e] at a b
      rw [List.getElem_append_right (by omega)]
      exact ⟨a, b⟩
theorem put_one {M M' : am_Mem} {t c v g : Nat} (e : am_I M' 6 t = nI (c + 1)) (h : ∀ i, i < c → am_I M' (8 + t) i = am_I M (8 + t) i ∧ am_I M' (15 + t) i = am_I M (15 + t) i) (e1 : am_I M' (8 + t) c = nI v) (e2 : am_I M' (15 + t) c = nI g) : PutC M M' t c [(v, g)] :=
  ⟨e, h, fun i hi => by
    have : i = 0 := by
      have : i < 1 := hi
      omega
    subst this
    exact ⟨e1, e2⟩⟩
section
variable {T : Nat → Int32} {n t : Nat}
theorem gn_c {N g : Nat} (hN : 100000 ≤ N) (hn : n ≤ 600) (ht : t < 6) : ∀ k p c x fuel M, k + c = 25 → c ≤ 24 → x ≤ c → k < fuel → CAt T n p M → am_I M 2 8 = nI t → am_I M 6 t = nI c → ∃ M', fn8_readGroup_b20 N fuel 2 (nI g) (nI x) M = some ((gNum T n k p c).1, M') ∧ RdF M M' t ∧ ((gNum T n k p c).1 = 0 → CAt T n (gNum T n k p c).2.1 M' ∧ PutC M M' t c ((gNum T n k p c).2.2.map (fun v => (v, g)))) := by
  intro k
  induction k with
  | zero => intro p c x fuel M h1 h2; omega
  | succ k ih =>
    intro p c x fuel M hk hc hx hf h e8 e6
    obtain ⟨q, rfl⟩ : ∃ q, fuel = q + 1 := ⟨fuel - 1, by omega⟩
    have s := h.1
    have hp := h.2.2.1
    have hK := ca_k h
    obtain ⟨_, _, _, r14, k15, l15⟩ := s8t s ht
    have hx24 : ¬ (24 : Int32) < nI x := Int32.not_lt.mpr (show nI x ≤ nI 24 from nI_le (by omega) (by decide))
    show ∃ M', fn8_readGroup_b20B N (fn8_readGroup_b20 N q) 2 (nI g) (nI x) M = _ ∧ _
    have eg : gNum T n (k + 1) p c = if tkK T n p = 2 then (if tkV T n p < 1 then (ft T n p 3, p, []) else if 24 ≤ c then (ft T n p 4, p, []) else ((gNum T n k (tkE T n p) (c + 1)).1, (gNum T n k (tkE T n p) (c + 1)).2.1, tkV T n p :: (gNum T n k (tkE T n p) (c + 1)).2.2)) else if tkK T n p = 4 then (0, tkE T n p, []) else (ft T n p 1, p, []) := rfl
    rw [eg]
    unfold fn8_readGroup_b20B
    rw [if_neg hx24, nk_k, sk2 s, nk_dd, hK]
    by_cases k2 : tkK T n p = 2
    · rw [if_pos k2, if_pos k2]
      obtain ⟨v, vl⟩ := ca_v h k2
      rw [v]
      by_cases v1 : tkV T n p < 1
      · rw [if_pos v1]
        have hv : ¬ 0 ≤ lg_cmp (lN (tkV T n p)) 1 := by
          rw [lg_cmp_ge, Int64.not_le, show (1 : Int64) = lN 1 from rfl, lN_lt (by omega) (by decide)]
          exact v1
        rw [if_neg hv, ca_ft h, nk_bd]
        exact ⟨M, rfl, rdf_refl M t, fun z => absurd z (ft_ne (k := 3) hn hp (by decide) (by decide))⟩
      · have hv : 0 ≤ lg_cmp (lN (tkV T n p)) 1 := by
          rw [lg_cmp_ge, show (1 : Int64) = lN 1 from rfl, lN_le (by decide) (by omega)]
          omega
        rw [if_neg v1, if_pos hv, sr2_10 s, nk_k, sk6 s, nk_dd, e8, sl6 s, nk_in ht (by decide), nk_ck, nI_clamp (by omega), e6]
        by_cases c24 : 24 ≤ c
        · rw [if_pos c24, if_neg (show ¬ nI c < (24 : Int32) from Int32.not_lt.mpr (show nI 24 ≤ nI c from nI_le c24 (by omega))), ca_ft h, nk_bd]
          exact ⟨M, rfl, rdf_refl M t, fun z => absurd z (ft_ne (k := 4) hn hp (by decide) (by decide))⟩
        · rw [if_neg c24, if_pos (show nI c < (24 : Int32) from nI_lt (b := 24) (by omega) (by decide))]
          have f1 : Fs [15 + t] M (am_wI M (15 + t) c (nI g)) := fs_wI _ _ _ List.mem_cons_self
          have h1 : CAt T n p (am_wI M (15 + t) c (nI g)) := ca_fs h f1 (by rw [List.mem_singleton]; omega) (by rw [List.mem_singleton]; omega)
          have e81 : am_I (am_wI M (15 + t) c (nI g)) 2 8 = nI t := by rw [rI_ne _ _ _ (by omega)]; exact e8
          have e61 : am_I (am_wI M (15 + t) c (nI g)) 6 t = nI c := by rw [rI_ne _ _ _ (by omega)]; exact e6
          have hh := hv_c ht (by omega) h1 k2 e81 e61
          have f2 : Fs [2, 6, 8 + t, 15 + t] M (am_wI (am_wI (am_wI M (15 + t) c (nI g)) (8 + t) c (nI (tkV T n p))) 6 t (nI (c + 1))) := fs_trans (fs_trans (fs_wI _ _ _ (by simp)) (fs_wI _ _ _ (by simp))) (fs_wI _ _ _ (by simp))
          have f3 : Fs [6, 8 + t, 15 + t] M (am_wI (am_wI (am_wI M (15 + t) c (nI g)) (8 + t) c (nI (tkV T n p))) 6 t (nI (c + 1))) := fs_trans (fs_trans (fs_wI _ _ _ (by simp)) (fs_wI _ _ _ (by simp))) (fs_wI _ _ _ (by simp))
          have p2 : PutC M (am_wI (am_wI (am_wI M (15 + t) c (nI g)) (8 + t) c (nI (tkV T n p))) 6 t (nI (c + 1))) t c [(tkV T n p, g)] := by
            refine put_one (rI_eq _ _ _ _) (fun i hi => ⟨?_, ?_⟩) ?_ ?_
            · rw [rI_ne _ _ _ (by omega), rI_ix _ _ _ (by omega), rI_ne _ _ _ (by omega)]
            · rw [rI_ne _ _ _ (by omega), rI_ne _ _ _ (by omega), rI_ix _ _ _ (by omega)]
            · rw [rI_ne _ _ _ (by omega), rI_eq]
            · rw [rI_ne _ _ _ (by omega), rI_ne _ _ _ (by omega), rI_eq]
          have r2 : RdF M (am_wI (am_wI (am_wI M (15 + t) c (nI g)) (8 + t) c (nI (tkV T n p))) 6 t (nI (c + 1))) t := by
            refine ⟨f2, fun y _ _ _ => ?_, fun u hu => ?_⟩
            · rw [rI_ne _ _ _ (by omega), rI_ne _ _ _ (by omega), rI_ne _ _ _ (by omega)]
            · rw [rI_ix _ _ _ hu, rI_ne _ _ _ (by omega), rI_ne _ _ _ (by omega)]
          have h2 : CAt T n p (am_wI (am_wI (am_wI M (15 + t) c (nI g)) (8 + t) c (nI (tkV T n p))) 6 t (nI (c + 1))) := ca_fs h f3 (by simp; omega) (by simp; omega)
          rw [sr2_12 s, nk_k, sk14 s, nk_dd, sl14 s, nk_in ht (by decide), nk_ck, nk_ck, r14, nk_k, k15, nk_dd, l15, nk_in (by omega) (by decide), nk_ck, nI_clamp (by omega), hh, nk_bd]
          revert p2 r2 h2
          generalize am_wI (am_wI (am_wI M (15 + t) c (nI g)) (8 + t) c (nI (tkV T n p))) 6 t (nI (c + 1)) = M2
          intro p2 r2 h2
          obtain ⟨M3, a1, a2, a3, a4⟩ := ca_nx hN hn h2
          have r3 := rdf_trans r2 (rdf_nx t a2 a3)
          have p3 : PutC M M3 t c [(tkV T n p, g)] := by
            obtain ⟨b1, b2, b3⟩ := p2
            refine ⟨by rw [fs_I a2 (by decide)]; exact b1, fun i hi => ?_, fun i hi => ?_⟩
            · rw [fs_I a2 (by rw [List.mem_singleton]; omega), fs_I a2 (by rw [List.mem_singleton]; omega)]; exact b2 i hi
            · rw [fs_I a2 (by rw [List.mem_singleton]; omega), fs_I a2 (by rw [List.mem_singleton]; omega)]; exact b3 i hi
          obtain ⟨M4, b1, b2, b3⟩ := ih (tkE T n p) (c + 1) (x + 1) q M3 (by omega) (by omega) (by omega) (by omega) a4 ((r3.2.1 8 (by decide) (by decide) (by decide)).trans e8) p3.1
          refine ⟨M4, ?_, rdf_trans r3 b2, fun z => ?_⟩
          · rw [nk_k, sk2 h2.1, nk_dd, a1, nk_bd, nI_1, b1]
          · obtain ⟨d1, d2⟩ := b3 z
            refine ⟨d1, ?_⟩
            show PutC M M4 t c ((tkV T n p, g) :: ((gNum T n k (tkE T n p) (c + 1)).2.2.map (fun v => (v, g))))
            exact put_app p3 d2
    · rw [if_neg k2, if_neg k2]
      unfold fn8_readGroup_b103
      rw [nk_k, sk2 s, nk_dd, hK]
      by_cases k4 : tkK T n p = 4
      · rw [if_pos k4, if_pos k4]
        obtain ⟨M3, a1, a2, a3, a4⟩ := ca_nx hN hn h
        refine ⟨M3, by rw [a1, nk_bd], rdf_nx t a2 a3, fun _ => ⟨a4, ?_⟩⟩
        refine put_nil (by rw [fs_I a2 (by decide)]; exact e6) ?_ ?_
        · rw [fs_I a2 (by rw [List.mem_singleton]; omega)]
        · rw [fs_I a2 (by rw [List.mem_singleton]; omega)]
      · rw [if_neg k4, if_neg k4, ca_ft h, nk_bd]
        exact ⟨M, rfl, rdf_refl M t, fun z => absurd z (ft_ne (k := 1) hn hp (by decide) (by decide))⟩
end
