section
variable {T : Nat → Int32} {n t : Nat}
theorem nt_c {N p : Nat} {M : am_Mem} (hN : 100000 ≤ N) (hn : n ≤ 600) (ht : t < 6) (h : CAt T n p M) (e8 : am_I M 2 8 = nI t) (e6 : am_I M 6 t = nI 0) : ∃ M', fn8_readNet N M 2 = some ((nNt T n p).1, M') ∧ RdF M M' t ∧ ((nNt T n p).1 = 0 → CAt T n (nNt T n p).2.1 M' ∧ PutN M M' t 0 ((nNt T n p).2.2.1 :: (nNt T n p).2.2.2) ∧ 2 ≤ (nNt T n p).2.2.1 ∧ (nNt T n p).2.2.1 ≤ 9 ∧ ∃ j, (nNt T n p).2.2.2.length = 2 * j ∧ j ≤ 14 ∧ ∀ v ∈ (nNt T n p).2.2.2, v < (nNt T n p).2.2.1) := by
  have hp := h.2.2.1
  have s := h.1
  unfold fn8_readNet fn8_readNet_b0 fn8_readNet_b36 fn8_readNet_b47 nNt
  rw [nk_k, sk2 s, nk_dd, ca_k h]
  by_cases k2 : tkK T n p = 2
  · rw [if_pos k2, if_pos k2]
    obtain ⟨v, vl⟩ := ca_v h k2
    rw [v]
    have u1 : (lg_cmp (lN (tkV T n p)) 2 < 0) ↔ tkV T n p < 2 := by rw [lg_cmp_lt, show (2 : Int64) = lN 2 from rfl, lN_lt (by omega) (by decide)]
    have u2 : (lg_cmp (lN (tkV T n p)) 9 ≤ 0) ↔ tkV T n p ≤ 9 := by rw [lg_cmp_le, show (9 : Int64) = lN 9 from rfl, lN_le (by omega) (by decide)]
    by_cases q1 : tkV T n p < 2
    · rw [if_pos (u1.mpr q1), if_pos (Or.inl q1), nk_dd, ca_ft h, nk_bd]
      exact ⟨M, rfl, rdf_refl M t, fun z => absurd z (ft_3 hn hp)⟩
    · rw [if_neg (fun z => q1 (u1.mp z))]
      by_cases q2 : tkV T n p ≤ 9
      · rw [if_pos (u2.mpr q2), if_neg (show ¬ (tkV T n p < 2 ∨ 9 < tkV T n p) by omega)]
        obtain ⟨Ma, M1, b1, bk, b2, b3, b4, b5, b6⟩ := hn_c (N := N) (c := 0) hN hn ht (by decide) h k2 e8 e6
        obtain ⟨M2, d1, d2, d3⟩ := ws_c (N := N) (P := tkV T n p) hN hn ht (by omega) 15 (tkE T n p) 0 N M1 (by omega) (by omega) (by omega) b4 b6 b5.1
        refine ⟨M2, ?_, rdf_trans b3 d2, fun z => ?_⟩
        · rw [nk_dd, b1, nk_bd, nk_k, bk, nk_dd, b2, nk_bd]
          exact d1
        · obtain ⟨g1, g2, j, g3, g4, g5⟩ := d3 z
          refine ⟨g1, ?_, by show 2 ≤ tkV T n p; omega, q2, j, g3, by omega, g5⟩
          exact pun_app (L := [tkV T n p]) b5 g2
      · rw [if_neg (fun z => q2 (u2.mp z)), if_pos (show tkV T n p < 2 ∨ 9 < tkV T n p by omega), nk_dd, ca_ft h, nk_bd]
        exact ⟨M, rfl, rdf_refl M t, fun z => absurd z (ft_3 hn hp)⟩
  · rw [if_neg k2, if_neg k2, ca_ft h, nk_bd]
    exact ⟨M, rfl, rdf_refl M t, fun z => absurd z (ft_1 hn hp)⟩
end
/-- the word at a token, to the class; the words 'drawn' and 'net' -/
def wW (T : Nat → Int32) (n p : Nat) : Int64 := wC T (tkS T n p) (tkE T n p - tkS T n p)
def wWm (T : Nat → Int32) (n p : Nat) : Int64 := wM T (tkS T n p) (tkE T n p - tkS T n p)
abbrev isDw (T : Nat → Int32) (n p : Nat) : Prop := tkK T n p = 1 ∧ wW T n p = 431415719790
abbrev isNw (T : Nat → Int32) (n p : Nat) : Prop := tkK T n p = 1 ∧ wW T n p = 7234932
section
variable {T : Nat → Int32} {n p : Nat} {M : am_Mem}
theorem iw_c (h : CAt T n p M) (j : Int64) : ∃ v, fn8_isWord M 2 j = some (v, M) ∧ ((v = 1 ∧ tkK T n p = 1 ∧ wW T n p = j) ∨ (v = 0 ∧ ¬ (tkK T n p = 1 ∧ wW T n p = j))) := by
  unfold fn8_isWord fn8_isWord_b0 fn8_isWord_b21 fn8_isWord_b22
  rw [nk_k, sk2 h.1, nk_dd, ca_k h]
  by_cases k1 : tkK T n p = 1
  · rw [if_pos k1, show am_J M 2 5 = wW T n p from ca_w h k1]
    by_cases q : wW T n p = j
    · rw [if_pos ((lg_cmp_eq _ _).mpr q), show ((1 : Int32) == 0 || (1 : Int32) == 1) = true from rfl, nk_ck]
      exact ⟨1, rfl, Or.inl ⟨rfl, k1, q⟩⟩
    · rw [if_neg (fun z => q ((lg_cmp_eq _ _).mp z)), show ((0 : Int32) == 0 || (0 : Int32) == 1) = true from rfl, nk_ck]
      exact ⟨0, rfl, Or.inr ⟨rfl, fun z => q z.2⟩⟩
  · rw [if_neg k1, show ((0 : Int32) == 0 || (0 : Int32) == 1) = true from rfl, nk_ck]
    exact ⟨0, rfl, Or.inr ⟨rfl, fun z => k1 z.1⟩⟩
theorem in_c {N : Nat} (h : CAt T n p M) (k1 : tkK T n p = 1) {Q : List Nat} (hQ : Q.length ≤ 6) (e8 : am_I M 2 8 = nI Q.length) (e4 : ∀ i (hi : i < Q.length), am_J M 4 i = wW T n (Q[i])) : ∀ k j fuel, j + k = Q.length → k < fuel → ∃ v, fn8_isNameThere_b2 N fuel 2 (nI j) M = some (v, M) ∧ ((v = 1 ∧ ∃ i, ∃ hi : i < Q.length, j ≤ i ∧ wW T n (Q[i]) = wW T n p) ∨ (v = 0 ∧ ¬ ∃ i, ∃ hi : i < Q.length, j ≤ i ∧ wW T n (Q[i]) = wW T n p)) := by
  have s := h.1
  have w : am_J M 2 5 = wW T n p := ca_w h k1
  intro k
  induction k with
  | zero =>
    intro j fuel hj hf
    obtain ⟨g, rfl⟩ : ∃ g, fuel = g + 1 := ⟨fuel - 1, by omega⟩
    refine ⟨0, ?_, Or.inr ⟨rfl, fun ⟨i, hi, h1, _⟩ => by omega⟩⟩
    show fn8_isNameThere_b2B N (fn8_isNameThere_b2 N g) 2 (nI j) M = _
    unfold fn8_isNameThere_b2B
    rw [nk_k, sk2 s, nk_dd, e8, if_pos (nI_le (by omega) (by omega))]
  | succ k ih =>
    intro j fuel hj hf
    obtain ⟨g, rfl⟩ : ∃ g, fuel = g + 1 := ⟨fuel - 1, by omega⟩
    have hj' : j < Q.length := by omega
    obtain ⟨v, e1, e2⟩ := ih (j + 1) g (by omega) (by omega)
    show ∃ v, fn8_isNameThere_b2B N (fn8_isNameThere_b2 N g) 2 (nI j) M = _ ∧ _
    unfold fn8_isNameThere_b2B
    rw [nk_k, sk2 s, nk_dd, e8, if_neg (nI_ge hj' (by omega)), sr2_6 s, nk_k, sk4 s, nk_dd, sl4 s, nk_in (by omega) (by decide), nk_ck, nI_clamp (by omega), e4 j hj', w, nI_1, e1]
    by_cases q : wW T n (Q[j]) = wW T n p
    · rw [if_pos ((lg_cmp_eq _ _).mpr q)]
      exact ⟨1, rfl, Or.inl ⟨rfl, j, hj', Nat.le_refl _, q⟩⟩
    · rw [if_neg (fun z => q ((lg_cmp_eq _ _).mp z))]
      refine ⟨v, rfl, ?_⟩
      rcases e2 with ⟨x, i, hi, h1, h2⟩ | ⟨x, y⟩
      · exact Or.inl ⟨x, i, hi, by omega, h2⟩
      · refine Or.inr ⟨x, fun ⟨i, hi, h1, h2⟩ => ?_⟩
        by_cases e : i = j
        · subst e; exact q h2
        · exact y ⟨i, hi, by omega, h2⟩
theorem it_c {N : Nat} (hN : 100000 ≤ N) (h : CAt T n p M) (k1 : tkK T n p = 1) {Q : List Nat} (hQ : Q.length ≤ 6) (e8 : am_I M 2 8 = nI Q.length) (e4 : ∀ i (hi : i < Q.length), am_J M 4 i = wW T n (Q[i])) : ∃ v, fn8_isNameThere N M 2 = some (v, M) ∧ ((v = 1 ∧ ∃ r ∈ Q, wW T n r = wW T n p) ∨ (v = 0 ∧ ¬ ∃ r ∈ Q, wW T n r = wW T n p)) := by
  obtain ⟨v, e1, e2⟩ := in_c (N := N) h k1 hQ e8 e4 Q.length 0 N (by omega) (by omega)
  refine ⟨v, e1, ?_⟩
  rcases e2 with ⟨x, i, hi, _, h2⟩ | ⟨x, y⟩
  · exact Or.inl ⟨x, Q[i], List.getElem_mem hi, h2⟩
  · refine Or.inr ⟨x, fun ⟨r, hr, h2⟩ => ?_⟩
    obtain ⟨i, hi, rfl⟩ := List.getElem_of_mem hr
    exact y ⟨i, hi, Nat.zero_le _, h2⟩
end
