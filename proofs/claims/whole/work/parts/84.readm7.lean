section
variable {T : Nat → Int32} {n t : Nat}
/-- two numbers of a wire put down, the reference -/
theorem wrw_m {N c x y : Nat} {M : am_Mem} {k : Nat → am_Mem → Option (Int32 × am_Mem)} (ht : t < 6) (hc : c < 28) (s : Shp M) (e9 : am_I M 110 9 = 0) (e11 : am_I M 110 11 = nI t) (e14 : am_I M 114 t = nI c) (e7 : am_I M 110 7 = nI y) : fn12_netLine_b197 N k 110 1 110 (nI x) M = am_bd (fn12_steps N (am_wI (am_wI (am_wI M 116 (29 * t + c) (nI x)) 116 (29 * t + (c + 1)) (nI y)) 114 t (nI (c + 2))) 110) (fun v14 M15 => k 110 M15) := by
  have i1 : am_in (nI (29 * t + c)) 174 = true := nk_in (by omega) (by decide)
  have i3 : am_in (nI (29 * t + c + 1)) 174 = true := nk_in (by omega) (by decide)
  have i2 : am_in (nI t) 6 = true := nk_in ht (by decide)
  have l1 : (nI (29 * t + c)).toNatClampNeg = 29 * t + c := nI_clamp (by omega)
  have l3 : (nI (29 * t + c + 1)).toNatClampNeg = 29 * t + (c + 1) := nI_clamp (by omega)
  have l2 : (nI t).toNatClampNeg = t := nI_clamp (by omega)
  have n1 : ¬ 110 = 116 := by decide
  have n2 : ¬ 114 = 116 := by decide
  have p2 : nI c + 2 = nI (c + 2) := lw_add c 2
  unfold fn12_netLine_b197
  rw [nk_k, sk110 s, nk_dd, mu_1 s e9, nk_bd, if_neg z_1]
  simp only [nk_k, sk116 s, sl116 s, eq_self, decide_true, nk_ck, sk110 s, sr110_14 s, sr110_16 s, sk114 s, sl114 s, rI_ne _ _ _ n1, rI_ne _ _ _ n2, e11, i2, l2, e14, i29, i1, l1, nI_1, i3, l3, e7, p2]
theorem ws_m {N P : Nat} (hN : 100000 ≤ N) (hn : n ≤ 600) (hB : ∀ x, x < n → isB (T x)) (ht : t < 6) (hP : P < 10000) : ∀ k p w fuel M, k + w = 15 → w ≤ 14 → k < fuel → MAt T n p M → am_I M 110 9 = 0 → am_I M 110 11 = nI t → am_I M 114 t = nI (2 * w) → am_I M 115 t = nI P → ∃ v M', fn12_netLine_b71 N fuel 110 M = some (v, M') ∧ RfM M M' t ∧ (((nWs T n P k p w).1 = 0 ∧ v = 1 ∧ am_I M' 110 9 = 0 ∧ MAt T n (nWs T n P k p w).2.1 M' ∧ PutM M M' t (2 * w) ((nWs T n P k p w).2.2.map nI)) ∨ (¬ (nWs T n P k p w).1 = 0 ∧ v = 0 ∧ FtM M' (nWs T n P k p w).1)) := by
  intro k
  induction k with
  | zero => intro p w fuel M h1 h2; omega
  | succ k ih =>
    intro p w fuel M hk hw hf h e9 e11 e14 e15
    obtain ⟨q, rfl⟩ : ∃ q, fuel = q + 1 := ⟨fuel - 1, by omega⟩
    have s := h.1
    have hp := h.2.2.1
    have km := km_all T n p
    have eg : nWs T n P (k + 1) p w = if tkK T n p = 2 then (if P ≤ tkV T n p then (ft T n p 3, p, []) else if 14 ≤ w then (ft T n p 4, p, []) else if tkK T n (tkE T n p) = 2 then (if P ≤ tkV T n (tkE T n p) ∨ tkV T n (tkE T n p) = tkV T n p then (ft T n (tkE T n p) 3, p, []) else ((nWs T n P k (tkE T n (tkE T n p)) (w + 1)).1, (nWs T n P k (tkE T n (tkE T n p)) (w + 1)).2.1, tkV T n p :: tkV T n (tkE T n p) :: (nWs T n P k (tkE T n (tkE T n p)) (w + 1)).2.2)) else (ft T n (tkE T n p) 1, p, [])) else (0, p, []) := rfl
    rw [eg]
    show ∃ v M', fn12_netLine_b71B N (fn12_netLine_b71 N q) 110 M = _ ∧ _
    unfold fn12_netLine_b71B fn12_netLine_b101 fn12_netLine_b128 fn12_netLine_b135 fn12_netLine_b142
    rw [nk_k, sk110 s, nk_dd, ma_k h]
    by_cases k2 : tkK T n p = 2
    · rw [if_pos (km.2.2.1.mpr k2), if_pos k2, sr110_15 s, nk_k, sk115 s, nk_dd, e11, sl115 s, nk_in ht (by decide), nk_ck, nI_clamp (by omega), e15, ma_v h k2]
      have vl : tkV T n p < 10000 := dN_lt (tk_2 k2).2
      by_cases v1 : P ≤ tkV T n p
      · rw [if_pos v1, if_pos (nI_le v1 (by omega)), nk_dd, mu_0 h e9 (by decide), nk_bd, if_pos rfl]
        exact ⟨0, _, rfl, rfm_mu M t 3 _, Or.inr ⟨ft_3 hn hp, rfl, mu_ft 3⟩⟩
      · rw [if_neg v1, if_neg (nI_ge (by omega) (by omega)), nk_dd, mu_1 s e9, nk_bd, if_neg z_1, nk_k, sk110 s, nk_dd, sr110_14 s, nk_k, sk114 s, nk_dd, e11, sl114 s, nk_in ht (by decide), nk_ck, nI_clamp (by omega), e14]
        by_cases c14 : 14 ≤ w
        · rw [if_pos c14, if_pos (show (28 : Int32) ≤ nI (2 * w) from nI_le (a := 28) (by omega) (by omega)), nk_dd, mu_0 h e9 (by decide), nk_bd, if_pos rfl]
          exact ⟨0, _, rfl, rfm_mu M t 4 _, Or.inr ⟨ft_4 hn hp, rfl, mu_ft 4⟩⟩
        · rw [if_neg c14, if_neg (show ¬ (28 : Int32) ≤ nI (2 * w) from nI_ge (b := 28) (by omega) (by decide)), nk_dd, mu_1 s e9, nk_bd, if_neg z_1, nk_k, sk110 s, nk_dd, nk_dd]
          obtain ⟨M1, a1, a2, a3, a4⟩ := ma_nx hN hn hB h
          have W1 := rfm_nx t a2 a3
          have e91 := (a3 9 (by decide) (by decide) (by decide) (by decide)).trans e9
          have e111 := (a3 11 (by decide) (by decide) (by decide) (by decide)).trans e11
          have e141 : am_I M1 114 t = nI (2 * w) := by rw [fs_I a2 (by decide)]; exact e14
          have e151 : am_I M1 115 t = nI P := by rw [fs_I a2 (by decide)]; exact e15
          have s1 := a4.1
          have he := a4.2.2.1
          have km1 := km_all T n (tkE T n p)
          rw [a1, nk_bd, nk_k, sk110 s1, nk_dd, ma_k a4, ma_v h k2]
          unfold fn12_netLine_b160 fn12_netLine_b204
          by_cases k3 : tkK T n (tkE T n p) = 2
          · rw [if_pos (km1.2.2.1.mpr k3), if_pos k3, nk_k, sk110 s1, nk_dd, mu_1 s1 e91, nk_bd, if_neg z_1, nk_k, sk110 s1, nk_dd, sr110_15 s1, nk_k, sk115 s1, nk_dd, e111, sl115 s1, nk_in ht (by decide), nk_ck, nI_clamp (by omega), e151, ma_v a4 k3]
            have ul : tkV T n (tkE T n p) < 10000 := dN_lt (tk_2 k3).2
            have bad : fn12_netLine_b196 N (fn12_netLine_b71 N q) 110 110 (nI (tkV T n p)) M1 = some (0, am_wI (am_wI M1 110 9 3) 110 10 (nI (tkS T n (tkE T n p)))) := by
              unfold fn12_netLine_b196 fn12_netLine_b197 fn12_netLine_b204
              rw [nk_k, sk110 s1, nk_dd, mu_0 a4 e91 (by decide), nk_bd, if_pos rfl]
            by_cases q1 : P ≤ tkV T n (tkE T n p)
            · rw [if_pos (nI_le q1 (by omega)), if_pos (Or.inl q1), bad]
              exact ⟨0, _, rfl, rfm_trans W1 (rfm_mu M1 t 3 _), Or.inr ⟨ft_3 hn he, rfl, mu_ft 3⟩⟩
            · rw [if_neg (nI_ge (by omega) (by omega))]
              by_cases q2 : tkV T n (tkE T n p) = tkV T n p
              · rw [if_pos (congrArg nI q2), if_pos (Or.inr q2), bad]
                exact ⟨0, _, rfl, rfm_trans W1 (rfm_mu M1 t 3 _), Or.inr ⟨ft_3 hn he, rfl, mu_ft 3⟩⟩
              · rw [if_neg (fun z => q2 (nI_inj (by omega) (by omega) z)), if_neg (fun z => z.elim q1 q2), wrw_m (c := 2 * w) (y := tkV T n (tkE T n p)) ht (by omega) s1 e91 e111 e141 (ma_v a4 k3)]
                have W2 : RfM M1 (am_wI (am_wI (am_wI M1 116 (29 * t + 2 * w) (nI (tkV T n p))) 116 (29 * t + (2 * w + 1)) (nI (tkV T n (tkE T n p)))) 114 t (nI (2 * w + 2))) t := by
                  refine ⟨fs_trans (fs_trans (fs_wI _ _ _ (by decide)) (fs_wI _ _ _ (by decide))) (fs_wI _ _ _ (by decide)), fun y _ _ _ _ _ _ => ?_, fun u hu => ?_, fun j hj => ?_⟩
                  · rw [rI_ne _ _ _ (by decide), rI_ne _ _ _ (by decide), rI_ne _ _ _ (by decide)]
                  · rw [rI_ix _ _ _ hu, rI_ne _ _ _ (by decide), rI_ne _ _ _ (by decide)]
                  · rw [rI_ne _ _ _ (by decide), rI_ix _ _ _ (by omega), rI_ix _ _ _ (by omega)]
                have P2 : PutM M1 (am_wI (am_wI (am_wI M1 116 (29 * t + 2 * w) (nI (tkV T n p))) 116 (29 * t + (2 * w + 1)) (nI (tkV T n (tkE T n p)))) 114 t (nI (2 * w + 2))) t (2 * w) [nI (tkV T n p), nI (tkV T n (tkE T n p))] := by
                  refine ⟨rI_eq _ _ _ _, fun i hi => ?_, fun i hi => ?_⟩
                  · rw [rI_ne _ _ _ (by decide), rI_ix _ _ _ (by omega), rI_ix _ _ _ (by omega)]
                  · have : i < 2 := hi
                    rw [rI_ne _ _ _ (by decide)]
                    match i, this with
                    | 0, _ =>
                      rw [rI_ix _ _ _ (by omega)]
                      exact rI_eq _ _ _ _
                    | 1, _ => exact rI_eq _ _ _ _
                have F2 : Fs [114, 116] M1 (am_wI (am_wI (am_wI M1 116 (29 * t + 2 * w) (nI (tkV T n p))) 116 (29 * t + (2 * w + 1)) (nI (tkV T n (tkE T n p)))) 114 t (nI (2 * w + 2))) := fs_trans (fs_trans (fs_wI _ _ _ (by decide)) (fs_wI _ _ _ (by decide))) (fs_wI _ _ _ (by decide))
                revert W2 P2 F2
                generalize am_wI (am_wI (am_wI M1 116 (29 * t + 2 * w) (nI (tkV T n p))) 116 (29 * t + (2 * w + 1)) (nI (tkV T n (tkE T n p)))) 114 t (nI (2 * w + 2)) = M2
                intro W2 P2 F2
                have h2 := ma_fs a4 F2 (by decide) (by decide)
                obtain ⟨M3, b1, b2, b3, b4⟩ := ma_nx hN hn hB h2
                have W3 := rfm_trans W1 (rfm_trans W2 (rfm_nx t b2 b3))
                have P3 := pum_nx P2 b2
                have e93 : am_I M3 110 9 = 0 := by rw [b3 9 (by decide) (by decide) (by decide) (by decide), fs_I F2 (by decide)]; exact e91
                have e113 : am_I M3 110 11 = nI t := by rw [b3 11 (by decide) (by decide) (by decide) (by decide), fs_I F2 (by decide)]; exact e111
                have e153 : am_I M3 115 t = nI P := by rw [fs_I b2 (by decide), fs_I F2 (by decide)]; exact e151
                obtain ⟨v, M4, d1, d2, d3⟩ := ih (tkE T n (tkE T n p)) (w + 1) q M3 (by omega) (by omega) (by omega) b4 e93 e113 P3.1 e153
                rw [b1, nk_bd]
                refine ⟨v, M4, d1, rfm_trans W3 d2, ?_⟩
                rcases d3 with ⟨f1, f2, f3, f4, f5⟩ | f
                · refine Or.inl ⟨f1, f2, f3, f4, ?_⟩
                  have h116 : am_I M1 116 = am_I M 116 := fs_I a2 (by decide)
                  have := pum_app P3 (show PutM M3 M4 t (2 * w + 2) _ from f5)
                  exact ⟨this.1, fun i hi => by rw [this.2.1 i hi, h116], this.2.2⟩
                · exact Or.inr f
          · rw [if_neg (fun z => k3 (km1.2.2.1.mp z)), if_neg k3, nk_k, sk110 s1, nk_dd, mu_0 a4 e91 (by decide), nk_bd, if_pos rfl]
            exact ⟨0, _, rfl, rfm_trans W1 (rfm_mu M1 t 1 _), Or.inr ⟨ft_1 hn he, rfl, mu_ft 1⟩⟩
    · rw [if_neg (fun z => k2 (km.2.2.1.mp z)), if_neg k2]
      refine ⟨1, M, rfl, rfm_refl M t, Or.inl ⟨rfl, rfl, e9, h, e14, fun _ _ => rfl, fun i hi => absurd hi (Nat.not_lt_zero i)⟩⟩
end
