/-- the text's lines: a fault, the places of the names, what the lines tell -/
def rdR (T : Nat → Int32) (n : Nat) : Nat → List Nat → List Ld → Nat → Int32 × List Nat × List Ld
  | 0, Q, D, _ => (0, Q, D)
  | k + 1, Q, D, p => if tkK T n p = 0 then (0, Q, D) else if (lnR T n Q p).1 = 0 then rdR T n k (Q ++ [tkE T n p]) (D ++ [(lnR T n Q p).2.2]) (lnR T n Q p).2.1 else ((lnR T n Q p).1, Q, D)
def RdS (T : Nat → Int32) (n : Nat) (M : am_Mem) (Q : List Nat) (D : List Ld) : Prop := am_I M 2 8 = nI Q.length ∧ Q.length = D.length ∧ (∀ i (hi : i < Q.length), am_J M 4 i = wW T n (Q[i])) ∧ ∀ i (hi : i < D.length), LdC M i (D[i])
section
variable {T : Nat → Int32} {n : Nat}
theorem lnR_lt {Q : List Nat} {p : Nat} (hn : n ≤ 600) (hp : p ≤ n) (z : (lnR T n Q p).1 = 0) : Q.length < 6 := by
  unfold lnR at z
  by_cases a : isDw T n p ∨ isNw T n p
  · rw [if_pos a] at z
    by_cases b : 6 ≤ Q.length
    · rw [if_pos b] at z; exact absurd z (ft_4 hn hp)
    · omega
  · rw [if_neg a] at z; exact absurd z (ft_1 hn hp)
theorem ln_c {N p : Nat} {M : am_Mem} {Q : List Nat} (hN : 100000 ≤ N) (hn : n ≤ 600) (hQ : Q.length ≤ 6) (h : CAt T n p M) (e8 : am_I M 2 8 = nI Q.length) (e4 : ∀ i (hi : i < Q.length), am_J M 4 i = wW T n (Q[i])) : ∃ M', fn8_readLine N M 2 = some ((lnR T n Q p).1, M') ∧ LnC T n Q p M M' (lnR T n Q p) := by
  have s := h.1
  unfold fn8_readLine fn8_readLine_b0
  obtain ⟨v, b1, b2⟩ := iw_c h 431415719790
  rw [nk_k, sk2 s, nk_dd, b1, nk_bd]
  rcases b2 with ⟨bv, bw⟩ | ⟨bv, bw⟩
  · rw [bv, if_neg z_1]
    have e : lnR T n Q p = lnX T n Q p 1 := by
      unfold lnR lnX
      rw [if_pos (Or.inl bw), if_pos rfl]
      by_cases q : 6 ≤ Q.length
      · rw [if_pos q, if_pos q]
      · rw [if_neg q, if_neg q]
        rw [if_pos (show isDw T n p from bw)]
    rw [e]
    exact l28_c hN hn hQ (Or.inr rfl) h e8 e4
  · rw [bv, if_pos rfl, nk_k, sk2 s, nk_dd]
    obtain ⟨u, d1, d2⟩ := iw_c h 7234932
    rw [d1, nk_bd]
    rcases d2 with ⟨du, dw⟩ | ⟨du, dw⟩
    · rw [du, if_neg z_1]
      have e : lnR T n Q p = lnX T n Q p 0 := by
        unfold lnR lnX
        rw [if_pos (Or.inr dw), if_neg (show ¬ isDw T n p from bw), if_neg (show ¬ (0 : Int32) = 1 by decide)]
      rw [e]
      exact l28_c hN hn hQ (Or.inl rfl) h e8 e4
    · rw [du, if_pos rfl, nk_k, sk2 s, nk_dd, ca_ft h, nk_bd]
      have e : lnR T n Q p = (ft T n p 1, p, ld0) := by
        unfold lnR
        rw [if_neg (fun z => z.elim bw dw)]
      rw [e]
      exact ⟨M, rfl, fs_refl _ _, rfl, fun z => absurd z (ft_1 hn h.2.2.1)⟩
theorem rds_add {M M' : am_Mem} {Q : List Nat} {D : List Ld} {p : Nat} {d : Ld} (h : RdS T n M Q D) (e8 : am_I M' 2 8 = nI (Q.length + 1)) (e4 : am_J M' 4 Q.length = wW T n p) (l : LdC M' Q.length d) (b : Bef M M' Q.length) : RdS T n M' (Q ++ [p]) (D ++ [d]) := by
  obtain ⟨h1, h2, h3, h4⟩ := h
  refine ⟨by rw [List.length_append]; exact e8, by rw [List.length_append, List.length_append, h2]; rfl, fun i hi => ?_, fun i hi => ?_⟩
  · rw [List.length_append] at hi
    by_cases q : i < Q.length
    · rw [List.getElem_append_left q, (b i q).1]
      exact h3 i q
    · have e : i = Q.length := by
        have : [p].length = 1 := rfl
        omega
      subst e
      rw [List.getElem_append_right (Nat.le_refl _)]
      simp only [Nat.sub_self, List.getElem_cons_zero]
      exact e4
  · rw [List.length_append] at hi
    by_cases q : i < D.length
    · rw [List.getElem_append_left q]
      exact ldc_bef b (by omega) (h4 i q)
    · have e : i = D.length := by
        have : [d].length = 1 := rfl
        omega
      subst e
      rw [List.getElem_append_right (Nat.le_refl _)]
      simp only [Nat.sub_self, List.getElem_cons_zero]
      rw [← h2]
      exact l
theorem rd_c {N : Nat} (hN : 100000 ≤ N) (hn : n ≤ 600) : ∀ k (Q : List Nat) (D : List Ld) p fuel M, k + Q.length = 7 → Q.length ≤ 6 → k < fuel → CAt T n p M → RdS T n M Q D → ∃ M', fn8_read_b33 N fuel 2 (nI Q.length) M = some ((rdR T n k Q D p).1, M') ∧ Fs rdW M M' ∧ am_I M' 2 7 = am_I M 2 7 ∧ ((rdR T n k Q D p).1 = 0 → RdS T n M' (rdR T n k Q D p).2.1 (rdR T n k Q D p).2.2 ∧ (rdR T n k Q D p).2.1.length ≤ 6) := by
  intro k
  induction k with
  | zero => intro Q D p fuel M h1 h2; omega
  | succ k ih =>
    intro Q D p fuel M hk hQ hf h r
    obtain ⟨g, rfl⟩ : ∃ g, fuel = g + 1 := ⟨fuel - 1, by omega⟩
    have h6 : ¬ (6 : Int32) < nI Q.length := Int32.not_lt.mpr (show nI Q.length ≤ nI 6 from nI_le hQ (by decide))
    have eg : rdR T n (k + 1) Q D p = if tkK T n p = 0 then (0, Q, D) else if (lnR T n Q p).1 = 0 then rdR T n k (Q ++ [tkE T n p]) (D ++ [(lnR T n Q p).2.2]) (lnR T n Q p).2.1 else ((lnR T n Q p).1, Q, D) := rfl
    rw [eg]
    show ∃ M', fn8_read_b33B N (fn8_read_b33 N g) 2 (nI Q.length) M = _ ∧ _
    unfold fn8_read_b33B fn8_read_b63
    rw [if_neg h6, nk_k, sk2 h.1, nk_dd, ca_k h]
    by_cases k0 : tkK T n p = 0
    · rw [if_pos k0, if_pos k0]
      exact ⟨M, rfl, fs_refl _ _, rfl, fun _ => ⟨r, hQ⟩⟩
    · rw [if_neg k0, if_neg k0]
      obtain ⟨M1, a1, a2, a3, a4⟩ := ln_c (N := N) hN hn hQ h r.1 r.2.2.1
      rw [a1, nk_bd]
      by_cases z : (lnR T n Q p).1 = 0
      · rw [if_pos z, if_pos z]
        obtain ⟨b1, b2, b3, b4, b5⟩ := a4 z
        have lt := lnR_lt hn h.2.2.1 z
        have el : (Q ++ [tkE T n p]).length = Q.length + 1 := by rw [List.length_append]; rfl
        obtain ⟨M2, d1, d2, d3, d4⟩ := ih (Q ++ [tkE T n p]) (D ++ [(lnR T n Q p).2.2]) (lnR T n Q p).2.1 g M1 (by rw [el]; omega) (by rw [el]; omega) (by omega) b1 (rds_add r b2 b3 b4 b5)
        rw [el] at d1
        exact ⟨M2, by rw [nI_1]; exact d1, fs_trans a2 d2, d3.trans a3, d4⟩
      · rw [if_neg z, if_neg z]
        exact ⟨M1, rfl, a2, a3, fun z2 => absurd z2 z⟩
end
