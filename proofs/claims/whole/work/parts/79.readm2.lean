/-- what reading a line leaves as it was, the reference -/
def RfM (M M' : am_Mem) (t : Nat) : Prop := Fs [110, 114, 116] M M' ∧ (∀ y, ¬ y = 4 → ¬ y = 5 → ¬ y = 6 → ¬ y = 7 → ¬ y = 9 → ¬ y = 10 → am_I M' 110 y = am_I M 110 y) ∧ (∀ u, ¬ u = t → am_I M' 114 u = am_I M 114 u) ∧ ∀ j, j < 29 * t → am_I M' 116 j = am_I M 116 j
theorem rfm_refl (M : am_Mem) (t : Nat) : RfM M M t := ⟨fs_refl _ _, fun _ _ _ _ _ _ _ => rfl, fun _ _ => rfl, fun _ _ => rfl⟩
theorem rfm_trans {M M1 M2 : am_Mem} {t : Nat} (h : RfM M M1 t) (g : RfM M1 M2 t) : RfM M M2 t :=
  ⟨fs_trans h.1 g.1, fun y a b c d e f => (g.2.1 y a b c d e f).trans (h.2.1 y a b c d e f), fun u a => (g.2.2.1 u a).trans (h.2.2.1 u a), fun j a => (g.2.2.2 j a).trans (h.2.2.2 j a)⟩
theorem rfm_nx {M M' : am_Mem} (t : Nat) (f : Fs [110] M M') (o : ∀ x, ¬ x = 4 → ¬ x = 5 → ¬ x = 6 → ¬ x = 7 → am_I M' 110 x = am_I M 110 x) : RfM M M' t :=
  ⟨fs_mono f (by decide), fun y a b c d _ _ => o y a b c d, fun u _ => by rw [fs_I f (by decide)], fun j _ => by rw [fs_I f (by decide)]⟩
theorem rfm_mu (M : am_Mem) (t : Nat) (k v : Int32) : RfM M (am_wI (am_wI M 110 9 k) 110 10 v) t :=
  ⟨fs_trans (fs_wI _ _ _ (by decide)) (fs_wI _ _ _ (by decide)), fun y _ _ _ _ e f => by rw [rI_ix _ _ _ f, rI_ix _ _ _ e], fun u _ => by rw [rI_ne _ _ _ (by decide), rI_ne _ _ _ (by decide)], fun j _ => by rw [rI_ne _ _ _ (by decide), rI_ne _ _ _ (by decide)]⟩
def PutM (M M' : am_Mem) (t c : Nat) (L : List Int32) : Prop := am_I M' 114 t = nI (c + L.length) ∧ (∀ i, i < c → am_I M' 116 (29 * t + i) = am_I M 116 (29 * t + i)) ∧ ∀ i (h : i < L.length), am_I M' 116 (29 * t + (c + i)) = L[i]
theorem pum_app {M M1 M2 : am_Mem} {t c : Nat} {L K : List Int32} (h : PutM M M1 t c L) (g : PutM M1 M2 t (c + L.length) K) : PutM M M2 t c (L ++ K) := by
  refine ⟨by rw [g.1, List.length_append, Nat.add_assoc], fun i hi => (g.2.1 i (by omega)).trans (h.2.1 i hi), fun i hi => ?_⟩
  rw [List.length_append] at hi
  by_cases q : i < L.length
  · rw [List.getElem_append_left q]
    exact (g.2.1 (c + i) (by omega)).trans (h.2.2 i q)
  · have a := g.2.2 (i - L.length) (by omega)
    have e : c + L.length + (i - L.length) = c + i := by omega
    rw [e] at a
    rw [List.getElem_append_right (by omega)]
    exact a
theorem pum_nx {M M1 M2 : am_Mem} {t c : Nat} {L : List Int32} (h : PutM M M1 t c L) (f : Fs [110] M1 M2) : PutM M M2 t c L := by
  refine ⟨by rw [fs_I f (by decide)]; exact h.1, fun i hi => ?_, fun i hi => ?_⟩
  · rw [fs_I f (by decide)]; exact h.2.1 i hi
  · rw [fs_I f (by decide)]; exact h.2.2 i hi
theorem i29 (t c : Nat) : (29 : Int32) * nI t + nI c = nI (29 * t + c) := by
  rw [show (29 : Int32) * nI t = nI (29 * t) from (Int32.ofNat_mul 29 _).symm, lw_add]
def sgX (x : Int32) (v : Nat) : Int32 := if x = 0 then nI v else -(nI v)
/-- numbers as the reference holds them: the first of a group with a minus -/
def sgL (x : Int32) : List Nat → List Int32
  | [] => []
  | v :: l => sgX x v :: l.map nI
theorem sgL_0 : ∀ l : List Nat, sgL 0 l = l.map nI
  | [] => rfl
  | v :: l => by
    show sgX 0 v :: l.map nI = nI v :: l.map nI
    unfold sgX
    rw [if_pos rfl]
section
variable {T : Nat → Int32} {n t : Nat}
theorem gn_m {N : Nat} (hN : 100000 ≤ N) (hn : n ≤ 600) (hB : ∀ x, x < n → isB (T x)) (ht : t < 6) : ∀ k p c x fuel M, k + c = 25 → c ≤ 24 → k < fuel → ¬ tkK T n p = 4 → MAt T n p M → am_I M 110 9 = 0 → am_I M 110 11 = nI t → am_I M 114 t = nI c → ∃ v M', fn12_groupHere_b29 N fuel 110 x M = some (v, M') ∧ RfM M M' t ∧ (((gNum T n k p c).1 = 0 ∧ v = 1 ∧ am_I M' 110 9 = 0 ∧ MAt T n (gNum T n k p c).2.1 M' ∧ PutM M M' t c (sgL x (gNum T n k p c).2.2)) ∨ (¬ (gNum T n k p c).1 = 0 ∧ v = 0 ∧ FtM M' (gNum T n k p c).1)) := by
  intro k
  induction k with
  | zero => intro p c x fuel M h1 h2; omega
  | succ k ih =>
    intro p c x fuel M hk hc hf hp4 h e9 e11 e14
    obtain ⟨q, rfl⟩ : ∃ q, fuel = q + 1 := ⟨fuel - 1, by omega⟩
    have s := h.1
    have hp := h.2.2.1
    have hK := ma_k h
    have km := km_all T n p
    have eg : gNum T n (k + 1) p c = if tkK T n p = 2 then (if tkV T n p < 1 then (ft T n p 3, p, []) else if 24 ≤ c then (ft T n p 4, p, []) else ((gNum T n k (tkE T n p) (c + 1)).1, (gNum T n k (tkE T n p) (c + 1)).2.1, tkV T n p :: (gNum T n k (tkE T n p) (c + 1)).2.2)) else if tkK T n p = 4 then (0, tkE T n p, []) else (ft T n p 1, p, []) := rfl
    rw [eg]
    show ∃ v M', fn12_groupHere_b29B N (fn12_groupHere_b29 N q) 110 x M = _ ∧ _
    unfold fn12_groupHere_b29B fn12_groupHere_b43 fn12_groupHere_b63 fn12_groupHere_b90 fn12_groupHere_b97
    rw [nk_k, sk110 s, nk_dd, hK]
    by_cases k2 : tkK T n p = 2
    · rw [if_pos (km.2.2.1.mpr k2), if_pos k2, nk_dd, mu_1 s e9, nk_bd, if_neg z_1, nk_k, sk110 s, nk_dd, ma_v h k2]
      have vl : tkV T n p < 10000 := dN_lt (tk_2 k2).2
      by_cases v1 : tkV T n p < 1
      · have z : nI (tkV T n p) ≤ 0 := show nI (tkV T n p) ≤ nI 0 from nI_le (by omega) (by decide)
        rw [if_pos z, if_pos v1, nk_dd, mu_0 h e9 (by decide), nk_bd, if_pos rfl]
        exact ⟨0, _, rfl, rfm_mu M t 3 _, Or.inr ⟨ft_3 hn hp, rfl, mu_ft 3⟩⟩
      · have z : ¬ nI (tkV T n p) ≤ 0 := show ¬ nI (tkV T n p) ≤ nI 0 from nI_ge (by omega) (by omega)
        rw [if_neg z, if_neg v1, nk_dd, mu_1 s e9, nk_bd, if_neg z_1, nk_k, sk110 s, nk_dd, sr110_14 s, nk_k, sk114 s, nk_dd, e11, sl114 s, nk_in ht (by decide), nk_ck, nI_clamp (by omega), e14]
        by_cases c24 : 24 ≤ c
        · rw [if_pos c24, if_pos (show (24 : Int32) ≤ nI c from nI_le (a := 24) c24 (by omega)), nk_dd, mu_0 h e9 (by decide), nk_bd, if_pos rfl]
          exact ⟨0, _, rfl, rfm_mu M t 4 _, Or.inr ⟨ft_4 hn hp, rfl, mu_ft 4⟩⟩
        · rw [if_neg c24, if_neg (show ¬ (24 : Int32) ≤ nI c from nI_ge (b := 24) (by omega) (by decide)), nk_dd, mu_1 s e9, nk_bd, if_neg z_1]
          have W1 : RfM M (am_wI (am_wI M 116 (29 * t + c) (sgX x (tkV T n p))) 114 t (nI (c + 1))) t := by
            refine ⟨fs_trans (fs_wI _ _ _ (by decide)) (fs_wI _ _ _ (by decide)), fun y _ _ _ _ _ _ => ?_, fun u hu => ?_, fun j hj => ?_⟩
            · rw [rI_ne _ _ _ (by decide), rI_ne _ _ _ (by decide)]
            · rw [rI_ix _ _ _ hu, rI_ne _ _ _ (by decide)]
            · rw [rI_ne _ _ _ (by decide), rI_ix _ _ _ (by omega)]
          have P1 : PutM M (am_wI (am_wI M 116 (29 * t + c) (sgX x (tkV T n p))) 114 t (nI (c + 1))) t c [sgX x (tkV T n p)] := by
            refine ⟨rI_eq _ _ _ _, fun i hi => ?_, fun i hi => ?_⟩
            · rw [rI_ne _ _ _ (by decide), rI_ix _ _ _ (by omega)]
            · have : i = 0 := by
                have : i < 1 := hi
                omega
              subst this
              rw [rI_ne _ _ _ (by decide)]
              exact rI_eq _ _ _ _
          have F1 : Fs [114, 116] M (am_wI (am_wI M 116 (29 * t + c) (sgX x (tkV T n p))) 114 t (nI (c + 1))) := fs_trans (fs_wI _ _ _ (by decide)) (fs_wI _ _ _ (by decide))
          have st : (if x = 0 then fn12_groupHere_b136 N (fn12_groupHere_b29 N q) 116 (nI (29 * t + c)) (nI (tkV T n p)) 110 M else fn12_groupHere_b136 N (fn12_groupHere_b29 N q) 116 (nI (29 * t + c)) (-(nI (tkV T n p))) 110 M) = am_bd (fn12_steps N (am_wI (am_wI M 116 (29 * t + c) (sgX x (tkV T n p))) 114 t (nI (c + 1))) 110) (fun v7 M8 => am_ck (am_k M8 110 12) (if (am_I M8 110 6) = (6 : Int32) then am_bd (fn12_steps N M8 110) (fun v11 M12 => some ((1 : Int32), M12)) else fn12_groupHere_b29 N q 110 (0 : Int32) M8)) := by
            have go : ∀ w, fn12_groupHere_b136 N (fn12_groupHere_b29 N q) 116 (nI (29 * t + c)) w 110 M = am_bd (fn12_steps N (am_wI (am_wI M 116 (29 * t + c) w) 114 t (nI (c + 1))) 110) (fun v7 M8 => am_ck (am_k M8 110 12) (if (am_I M8 110 6) = (6 : Int32) then am_bd (fn12_steps N M8 110) (fun v11 M12 => some ((1 : Int32), M12)) else fn12_groupHere_b29 N q 110 (0 : Int32) M8)) := by
              intro w
              have i1 : am_in (nI (29 * t + c)) 174 = true := nk_in (by omega) (by decide)
              have i2 : am_in (nI t) 6 = true := nk_in ht (by decide)
              have l1 : (nI (29 * t + c)).toNatClampNeg = 29 * t + c := nI_clamp (by omega)
              have l2 : (nI t).toNatClampNeg = t := nI_clamp (by omega)
              have n1 : ¬ 110 = 116 := by decide
              have n2 : ¬ 114 = 116 := by decide
              unfold fn12_groupHere_b136
              simp only [nk_k, sk116 s, sl116 s, eq_self, decide_true, nk_ck, i1, l1, sk110 s, sr110_14 s, sk114 s, sl114 s, rI_ne _ _ _ n1, rI_ne _ _ _ n2, e11, i2, l2, e14, nI_1]
            unfold sgX
            by_cases x0 : x = 0
            · rw [if_pos x0, if_pos x0, go]
            · rw [if_neg x0, if_neg x0, go]
          have h2 := ma_fs h F1 (by decide) (by decide)
          have e92 : am_I (am_wI (am_wI M 116 (29 * t + c) (sgX x (tkV T n p))) 114 t (nI (c + 1))) 110 9 = 0 := by rw [fs_I F1 (by decide)]; exact e9
          have e112 : am_I (am_wI (am_wI M 116 (29 * t + c) (sgX x (tkV T n p))) 114 t (nI (c + 1))) 110 11 = nI t := by rw [fs_I F1 (by decide)]; exact e11
          rw [nk_k, sk110 s, nk_dd, sr110_14 s, nk_k, sk114 s, nk_dd, e11, sl114 s, nk_in ht (by decide), nk_ck, nI_clamp (by omega), e14, sr110_16 s, i29, ma_v h k2, st]
          revert W1 P1 h2 e92 e112
          generalize am_wI (am_wI M 116 (29 * t + c) (sgX x (tkV T n p))) 114 t (nI (c + 1)) = M2
          intro W1 P1 h2 e92 e112
          obtain ⟨M3, a1, a2, a3, a4⟩ := ma_nx hN hn hB h2
          have W3 := rfm_trans W1 (rfm_nx t a2 a3)
          have P3 := pum_nx P1 a2
          have e93 := (a3 9 (by decide) (by decide) (by decide) (by decide)).trans e92
          have e113 := (a3 11 (by decide) (by decide) (by decide) (by decide)).trans e112
          rw [a1, nk_bd, nk_k, sk110 a4.1, nk_dd, ma_k a4]
          have cons : ∀ l, sgL x (tkV T n p :: l) = [sgX x (tkV T n p)] ++ sgL 0 l := fun l => by rw [sgL_0]; rfl
          by_cases k4 : tkK T n (tkE T n p) = 4
          · rw [if_pos ((km_all T n _).2.2.2.2.1.mpr k4)]
            obtain ⟨M4, b1, b2, b3, b4⟩ := ma_nx hN hn hB a4
            obtain ⟨k', hk'⟩ : ∃ k', k = k' + 1 := ⟨k - 1, by omega⟩
            have ek : gNum T n k (tkE T n p) (c + 1) = (0, tkE T n (tkE T n p), []) := by
              rw [hk']
              show (if tkK T n (tkE T n p) = 2 then _ else if tkK T n (tkE T n p) = 4 then (0, tkE T n (tkE T n p), []) else _) = _
              rw [if_neg (by rw [k4]; decide), if_pos k4]
            rw [ek, b1, nk_bd]
            refine ⟨1, M4, rfl, rfm_trans W3 (rfm_nx t b2 b3), Or.inl ⟨rfl, rfl, (b3 9 (by decide) (by decide) (by decide) (by decide)).trans e93, b4, ?_⟩⟩
            exact pum_nx P3 b2
          · rw [if_neg (fun z => k4 ((km_all T n _).2.2.2.2.1.mp z))]
            obtain ⟨v, M4, b1, b2, b3⟩ := ih (tkE T n p) (c + 1) 0 q M3 (by omega) (by omega) (by omega) k4 a4 e93 e113 P3.1
            refine ⟨v, M4, b1, rfm_trans W3 b2, ?_⟩
            rcases b3 with ⟨d1, d2, d3, d4, d5⟩ | ⟨d1, d2, d3⟩
            · refine Or.inl ⟨d1, d2, d3, d4, ?_⟩
              show PutM M M4 t c (sgL x (tkV T n p :: (gNum T n k (tkE T n p) (c + 1)).2.2))
              rw [cons]
              exact pum_app P3 d5
            · exact Or.inr ⟨d1, d2, d3⟩
    · rw [if_neg (fun z => k2 (km.2.2.1.mp z)), if_neg k2, if_neg hp4, nk_dd, mu_0 h e9 (by decide), nk_bd, if_pos rfl]
      exact ⟨0, _, rfl, rfm_mu M t 1 _, Or.inr ⟨ft_1 hn hp, rfl, mu_ft 1⟩⟩
end
