section
variable {T : Nat → Int32} {n : Nat}
def lnX (T : Nat → Int32) (n : Nat) (Q : List Nat) (p : Nat) (x : Int32) : Int32 × Nat × Ld := if 6 ≤ Q.length then (ft T n p 4, p, ld0) else if tkK T n (tkE T n p) = 1 ∧ ¬ isDw T n (tkE T n p) ∧ ¬ isNw T n (tkE T n p) then (if ∃ r ∈ Q, wW T n r = wW T n (tkE T n p) then (ft T n (tkE T n p) 2, p, ld0) else if x = 1 then lnD T n (tkE T n (tkE T n p)) else lnN T n (tkE T n (tkE T n p))) else (ft T n (tkE T n p) 1, p, ld0)
theorem l28_c {N p : Nat} {M : am_Mem} {Q : List Nat} {x : Int32} (hN : 100000 ≤ N) (hn : n ≤ 600) (hQ : Q.length ≤ 6) (hx : x = 0 ∨ x = 1) (h : CAt T n p M) (e8 : am_I M 2 8 = nI Q.length) (e4 : ∀ i (hi : i < Q.length), am_J M 4 i = wW T n (Q[i])) : ∃ M', fn8_readLine_b28 N 2 x M = some ((lnX T n Q p x).1, M') ∧ LnC T n Q p M M' (lnX T n Q p x) := by
  have hp := h.2.2.1
  unfold fn8_readLine_b28 fn8_readLine_b75 lnX
  rw [nk_k, sk2 h.1, nk_dd, e8]
  by_cases q6 : 6 ≤ Q.length
  · rw [if_pos q6, if_neg (show ¬ nI Q.length < (6 : Int32) from Int32.not_lt.mpr (show nI 6 ≤ nI Q.length from nI_le q6 (by omega))), ca_ft h, nk_bd]
    exact ⟨M, rfl, fs_refl _ _, rfl, fun z => absurd z (ft_4 hn hp)⟩
  · rw [if_neg q6, if_pos (show nI Q.length < (6 : Int32) from nI_lt (b := 6) (by omega) (by decide))]
    have ht : Q.length < 6 := by omega
    obtain ⟨M1, a1, a2, a3, a4⟩ := ca_nx hN hn h
    have f1 := fs_mono a2 (show ∀ a ∈ [2], a ∈ rdW by decide)
    have e71 := a3 7 (by decide) (by decide) (by decide)
    have e81 := (a3 8 (by decide) (by decide) (by decide)).trans e8
    have he := a4.2.2.1
    have s1 := a4.1
    have e41 : ∀ i (hi : i < Q.length), am_J M1 4 i = wW T n (Q[i]) := fun i hi => by rw [fs_J a2 (by decide)]; exact e4 i hi
    have bad : ∃ M', (am_ck (am_k M1 2 8) (am_bd (fn8_faultOf M1 2 1) (fun v2 M3 => some (v2, M3))) : Option (Int32 × am_Mem)) = some ((ft T n (tkE T n p) 1, p, ld0).1, M') ∧ LnC T n Q p M M' (ft T n (tkE T n p) 1, p, ld0) := by
      rw [nk_k, sk2 s1, nk_dd, ca_ft a4, nk_bd]
      exact ⟨M1, rfl, f1, e71, fun z => absurd z (ft_1 hn he)⟩
    rw [a1, nk_bd, nk_k, sk2 s1, nk_dd, ca_k a4]
    by_cases k1 : tkK T n (tkE T n p) = 1
    · rw [if_pos k1]
      obtain ⟨v, b1, b2⟩ := iw_c a4 431415719790
      rw [b1, nk_bd]
      rcases b2 with ⟨bv, bw⟩ | ⟨bv, bw⟩
      · rw [bv, if_neg z_1, if_neg (fun z => z.2.1 bw)]
        exact bad
      · rw [bv, if_pos rfl, nk_k, sk2 s1, nk_dd]
        obtain ⟨u, d1, d2⟩ := iw_c a4 7234932
        rw [d1, nk_bd]
        rcases d2 with ⟨du, dw⟩ | ⟨du, dw⟩
        · rw [du, if_neg z_1, if_neg (fun z => z.2.2 dw)]
          exact bad
        · rw [du, if_pos rfl, nk_k, sk2 s1, nk_dd, if_pos ⟨k1, bw, dw⟩]
          obtain ⟨y, g1, g2⟩ := it_c hN a4 k1 hQ e81 e41
          rw [g1, nk_bd]
          rcases g2 with ⟨gy, gw⟩ | ⟨gy, gw⟩
          · rw [gy, if_neg z_1, if_pos gw, nk_k, sk2 s1, nk_dd, ca_ft a4, nk_bd]
            exact ⟨M1, rfl, f1, e71, fun z => absurd z (ft_2 hn he)⟩
          · rw [gy, if_pos rfl, if_neg gw]
            have wv : am_J M1 2 5 = wW T n (tkE T n p) := ca_w a4 k1
            have m4 : (4 : Nat) ∈ rdW := by decide
            have m5 : (5 : Nat) ∈ rdW := by decide
            have m6 : (6 : Nat) ∈ rdW := by decide
            have f2 : Fs rdW M1 (am_wI (am_wI (am_wJ M1 4 Q.length (wW T n (tkE T n p))) 5 Q.length x) 6 Q.length 0) := fs_trans (fs_trans (fs_wJ _ _ _ m4) (fs_wI _ _ _ m5)) (fs_wI _ _ _ m6)
            have f2' : Fs [4, 5, 6] M1 (am_wI (am_wI (am_wJ M1 4 Q.length (wW T n (tkE T n p))) 5 Q.length x) 6 Q.length 0) := fs_trans (fs_trans (fs_wJ _ _ _ (by decide)) (fs_wI _ _ _ (by decide))) (fs_wI _ _ _ (by decide))
            have h2 : CAt T n (tkE T n p) (am_wI (am_wI (am_wJ M1 4 Q.length (wW T n (tkE T n p))) 5 Q.length x) 6 Q.length 0) := ca_fs a4 f2' (by decide) (by decide)
            have j2 : am_J (am_wI (am_wI (am_wJ M1 4 Q.length (wW T n (tkE T n p))) 5 Q.length x) 6 Q.length 0) 4 Q.length = wW T n (tkE T n p) := by rw [qJ_wI, qJ_wI, rJ_eq]
            have i5 : am_I (am_wI (am_wI (am_wJ M1 4 Q.length (wW T n (tkE T n p))) 5 Q.length x) 6 Q.length 0) 5 Q.length = x := by rw [rI_ne _ _ _ (by decide), rI_eq]
            have i6 : am_I (am_wI (am_wI (am_wJ M1 4 Q.length (wW T n (tkE T n p))) 5 Q.length x) 6 Q.length 0) 6 Q.length = nI 0 := rI_eq _ _ _ _
            have bf : Bef M1 (am_wI (am_wI (am_wJ M1 4 Q.length (wW T n (tkE T n p))) 5 Q.length x) 6 Q.length 0) Q.length := fun i hi => by
              have ni : ¬ i = Q.length := by omega
              refine ⟨?_, ?_, ?_, ?_, ?_⟩
              · rw [qJ_wI, qJ_wI, rJ_ix _ _ _ ni]
              · rw [rI_ne _ _ _ (by decide), rI_ix _ _ _ ni, qI_wJ]
              · rw [rI_ix _ _ _ ni, rI_ne _ _ _ (by decide), qI_wJ]
              · exact fs_I f2' (by simp; omega)
              · exact fs_I f2' (by simp; omega)
            have xx : x &&& 1 = x := by rcases hx with e | e <;> rw [e] <;> decide
            have st : ∀ (F : am_Mem → Option (Int32 × am_Mem)), am_ck (am_k M1 2 8) (am_ck (am_k M1 (am_R M1 2 6) 15) (am_ck (am_in (am_I M1 2 8) (am_L M1 (am_R M1 2 6))) (am_ck (am_k M1 (am_R M1 2 9) 16) (am_ck (am_in (am_I M1 2 8) (am_L M1 (am_R M1 2 9))) (am_ck (am_k M1 (am_R M1 2 10) 14) (am_ck (am_in (am_I (am_wI (am_wJ M1 (am_R M1 2 6) (am_I M1 2 8).toNatClampNeg (am_J M1 2 5)) (am_R M1 2 9) (am_I M1 2 8).toNatClampNeg (x &&& 1)) 2 8) (am_L M1 (am_R M1 2 10))) (F (am_wI (am_wI (am_wJ M1 (am_R M1 2 6) (am_I M1 2 8).toNatClampNeg (am_J M1 2 5)) (am_R M1 2 9) (am_I M1 2 8).toNatClampNeg (x &&& 1)) (am_R M1 2 10) (am_I (am_wI (am_wJ M1 (am_R M1 2 6) (am_I M1 2 8).toNatClampNeg (am_J M1 2 5)) (am_R M1 2 9) (am_I M1 2 8).toNatClampNeg (x &&& 1)) 2 8).toNatClampNeg (0 : Int32))))))))) = F (am_wI (am_wI (am_wJ M1 4 Q.length (wW T n (tkE T n p))) 5 Q.length x) 6 Q.length 0) := by
              intro F
              have i1 : am_in (nI Q.length) 6 = true := nk_in ht (by decide)
              have l1 : (nI Q.length).toNatClampNeg = Q.length := nI_clamp (by omega)
              have n25 : ¬ 2 = 5 := by decide
              simp only [nk_k, sk2 s1, sr2_6 s1, sr2_9 s1, sr2_10 s1, sk4 s1, sl4 s1, sk5 s1, sl5 s1, sk6 s1, sl6 s1, eq_self, decide_true, nk_ck, e81, i1, l1, wv, xx, rI_ne _ _ _ n25, qI_wJ]
            refine (show ∀ {A B : Option (Int32 × am_Mem)} {r : Int32 × Nat × Ld}, A = B → (∃ M', B = some (r.1, M') ∧ LnC T n Q p M M' r) → ∃ M', A = some (r.1, M') ∧ LnC T n Q p M M' r from fun e z => e ▸ z) (st (fun K => am_bd (fn8_nextToken N K 2) (fun v24 M25 => if x = 0 then am_ck (am_k M25 2 8) (am_bd (fn8_readNet N M25 2) (fun v28 M29 => fn8_readLine_b146 N v28 2 M29)) else am_ck (am_k M25 2 8) (am_bd (fn8_readGroups N M25 2) (fun v32 M33 => fn8_readLine_b146 N v32 2 M33))))) ?_
            have e82 := (fs_I f2' (a := 2) (by decide))
            revert f2 h2 j2 i5 i6 bf e82
            generalize am_wI (am_wI (am_wJ M1 4 Q.length (wW T n (tkE T n p))) 5 Q.length x) 6 Q.length 0 = M2
            intro f2 h2 j2 i5 i6 bf e82
            obtain ⟨M3, p1, p2, p3, p4⟩ := ca_nx hN hn h2
            have f3 := fs_mono p2 (show ∀ a ∈ [2], a ∈ rdW by decide)
            have e83 : am_I M3 2 8 = nI Q.length := by rw [p3 8 (by decide) (by decide) (by decide), e82]; exact e81
            have e73 : am_I M3 2 7 = am_I M 2 7 := by rw [p3 7 (by decide) (by decide) (by decide), e82]; exact e71
            have e63 : am_I M3 6 Q.length = nI 0 := by rw [fs_I p2 (by decide)]; exact i6
            have e53 : am_I M3 5 Q.length = x := by rw [fs_I p2 (by decide)]; exact i5
            have j3 : am_J M3 4 Q.length = wW T n (tkE T n p) := by rw [fs_J p2 (by decide)]; exact j2
            have b3 := bef_trans (bef_trans (bef_nx Q.length a2) bf) (bef_nx Q.length p2)
            have fm := fs_trans (fs_trans f1 f2) f3
            rcases hx with rfl | rfl
            · rw [if_neg (show ¬ (0 : Int32) = 1 by decide)]
              obtain ⟨M4, r1, r2, r3, r4⟩ := lc_c (N := N) hN hn ht p4 e83 e63 e53
              refine ⟨M4, ?_, fs_trans fm r2, r3.trans e73, fun z => ?_⟩
              · show am_bd (fn8_nextToken N M2 2) _ = _
                rw [p1, nk_bd, if_pos rfl, nk_k, sk2 p4.1, nk_dd]
                exact r1
              · obtain ⟨s1', s2', s3', s4', s5'⟩ := r4 z
                exact ⟨s1', s2', by rw [s3']; exact j3, s4', bef_trans b3 s5'⟩
            · rw [if_pos rfl]
              obtain ⟨M4, r1, r2, r3, r4⟩ := lb_c (N := N) hN hn ht p4 e83 e63 e53
              refine ⟨M4, ?_, fs_trans fm r2, r3.trans e73, fun z => ?_⟩
              · show am_bd (fn8_nextToken N M2 2) _ = _
                rw [p1, nk_bd, if_neg z_1, nk_k, sk2 p4.1, nk_dd]
                exact r1
              · obtain ⟨s1', s2', s3', s4', s5'⟩ := r4 z
                exact ⟨s1', s2', by rw [s3']; exact j3, s4', bef_trans b3 s5'⟩
    · rw [if_neg k1, if_neg (fun z => k1 z.1), nk_dd, ca_ft a4, nk_bd]
      exact ⟨M1, rfl, f1, e71, fun z => absurd z (ft_1 hn he)⟩
end
