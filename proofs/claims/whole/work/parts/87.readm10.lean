/-- what reading the text leaves, the reference -/
def RtM (M M' : am_Mem) : Prop := Fs [110, 112, 113, 114, 115, 116] M M' ∧ ∀ y, ¬ y = 4 → ¬ y = 5 → ¬ y = 6 → ¬ y = 7 → ¬ y = 9 → ¬ y = 10 → ¬ y = 11 → am_I M' 110 y = am_I M 110 y
def RdM (T : Nat → Int32) (n : Nat) (M : am_Mem) (Q : List Nat) (D : List Ld) : Prop := am_I M 110 11 = nI Q.length ∧ Q.length = D.length ∧ (∀ i (hi : i < Q.length), am_J M 112 i = wWm T n (Q[i])) ∧ (∀ i (hi : i < D.length), LdM M i (D[i])) ∧ ∀ d ∈ D, d.2.1.length ≤ 24 ∧ d.2.2.2.length ≤ 28
theorem sgG_len : ∀ (l : List (Nat × Nat)) (pr : Nat), (sgG pr l).length = l.length
  | [], _ => rfl
  | (v, g) :: l, pr => by
    show (sgG g l).length + 1 = l.length + 1
    rw [sgG_len l g]
theorem ldm_rl {M M' : am_Mem} {t i : Nat} {d : Ld} (r : RlM M M' t) (hi : i < t) (hd : d.2.1.length ≤ 24 ∧ d.2.2.2.length ≤ 28) (h : LdM M i d) : LdM M' i d := by
  obtain ⟨a1, a2, a3, a4⟩ := r.2.2.1 i (by omega)
  unfold LdM at h ⊢
  rw [a2, a3, a4]
  rcases h with ⟨h1, h2, h3, h4⟩ | ⟨h1, h2, h3, h4, h5⟩
  · refine Or.inl ⟨h1, h2, h3, fun j hj => ?_⟩
    have := hj
    rw [sgG_len] at this
    rw [r.2.2.2 _ (by omega)]
    exact h4 j hj
  · refine Or.inr ⟨h1, h2, h3, h4, fun j hj => ?_⟩
    rw [r.2.2.2 _ (by omega)]
    exact h5 j hj
section
variable {T : Nat → Int32} {n : Nat}
theorem rdm_add {M M' : am_Mem} {Q : List Nat} {D : List Ld} {p : Nat} {d : Ld} (h : RdM T n M Q D) (e11 : am_I M' 110 11 = nI (Q.length + 1)) (e12 : am_J M' 112 Q.length = wWm T n p) (l : LdM M' Q.length d) (hd : d.2.1.length ≤ 24 ∧ d.2.2.2.length ≤ 28) (r : RlM M M' Q.length) : RdM T n M' (Q ++ [p]) (D ++ [d]) := by
  obtain ⟨h1, h2, h3, h4, h5⟩ := h
  refine ⟨by rw [List.length_append]; exact e11, by rw [List.length_append, List.length_append, h2]; rfl, fun i hi => ?_, fun i hi => ?_, fun d' hd' => ?_⟩
  · rw [List.length_append] at hi
    by_cases q : i < Q.length
    · rw [List.getElem_append_left q, (r.2.2.1 i (by omega)).1]
      exact h3 i q
    · have : i = Q.length := by
        have : i < Q.length + 1 := hi
        omega
      subst this
      rw [List.getElem_append_right (Nat.le_refl _)]
      simp only [Nat.sub_self, List.getElem_cons_zero]
      exact e12
  · rw [List.length_append] at hi
    by_cases q : i < D.length
    · rw [List.getElem_append_left q]
      exact ldm_rl r (by omega) (h5 _ (List.getElem_mem q)) (h4 i q)
    · have : i = D.length := by
        have : i < D.length + 1 := hi
        omega
      subst this
      rw [List.getElem_append_right (Nat.le_refl _)]
      simp only [Nat.sub_self, List.getElem_cons_zero]
      rw [← h2]
      exact l
  · rcases List.mem_append.mp hd' with a | a
    · exact h5 _ a
    · rw [List.mem_singleton.mp a]; exact hd
/-- a line that has no fault: its name, and few numbers -/
theorem lnR_ok {Q : List Nat} {p : Nat} (hn : n ≤ 600) (hp : p ≤ n) (z : (lnR T n Q p).1 = 0) : tkK T n (tkE T n p) = 1 := by
  unfold lnR at z
  have he := tkE_le (T := T) hp
  by_cases a : isDw T n p ∨ isNw T n p
  · rw [if_pos a] at z
    by_cases b : 6 ≤ Q.length
    · rw [if_pos b] at z; exact absurd z (ft_4 hn hp)
    · rw [if_neg b] at z
      by_cases c : tkK T n (tkE T n p) = 1 ∧ ¬ isDw T n (tkE T n p) ∧ ¬ isNw T n (tkE T n p)
      · exact c.1
      · rw [if_neg c] at z; exact absurd z (ft_1 hn he)
  · rw [if_neg a] at z; exact absurd z (ft_1 hn hp)
theorem ldok_len {d : Ld} (h : LdOk d) : d.2.1.length ≤ 24 ∧ d.2.2.2.length ≤ 28 := by
  rcases h with ⟨_, _, a, _, _, b⟩ | ⟨_, a, _, _, j, b, c, _, _⟩
  · rw [b]; exact ⟨a, by decide⟩
  · rw [a, b]; exact ⟨by decide, by omega⟩
/-- the reference reads the text -/
theorem rd_m {N : Nat} (hN : 100000 ≤ N) (hn : n ≤ 600) (hB : ∀ x, x < n → isB (T x)) : ∀ k (Q : List Nat) (D : List Ld) p fuel M, k + Q.length = 7 → Q.length ≤ 6 → k < fuel → (∀ r ∈ Q, tkK T n r = 1)  → MAt T n p M → am_I M 110 9 = 0 → RdM T n M Q D → ∃ M', RtM M M' ∧ (((rdR T n k Q D p).1 = 0 ∧ fn12_text_b52 N fuel 110 1 M = fn12_text_b71 N 110 1 M' ∧ RdM T n M' (rdR T n k Q D p).2.1 (rdR T n k Q D p).2.2 ∧ (rdR T n k Q D p).2.1.length ≤ 6) ∨ (¬ (rdR T n k Q D p).1 = 0 ∧ fn12_text_b52 N fuel 110 1 M = some (-2 - (rdR T n k Q D p).1, M'))) := by
  intro k
  induction k with
  | zero => intro Q D p fuel M h1 h2; omega
  | succ k ih =>
    intro Q D p fuel M hk hQ hf hW h e9 hr
    obtain ⟨q, rfl⟩ : ∃ q, fuel = q + 1 := ⟨fuel - 1, by omega⟩
    have s := h.1
    have hp := h.2.2.1
    have eg : rdR T n (k + 1) Q D p = if tkK T n p = 0 then (0, Q, D) else if (lnR T n Q p).1 = 0 then rdR T n k (Q ++ [tkE T n p]) (D ++ [(lnR T n Q p).2.2]) (lnR T n Q p).2.1 else ((lnR T n Q p).1, Q, D) := rfl
    rw [eg]
    have st : fn12_text_b52 N (q + 1) 110 1 M = (if kM (tkK T n p) = 0 then fn12_text_b71 N 110 1 M else am_bd (fn12_lineHere N M 110) (fun v2 M3 => fn12_text_b52 N q 110 v2 M3)) := by
      show fn12_text_b52B N (fn12_text_b52 N q) 110 1 M = _
      unfold fn12_text_b52B
      rw [if_neg z_1, nk_k, sk110 s, nk_dd, ma_k h]
    rw [st]
    by_cases k0 : tkK T n p = 0
    · rw [if_pos k0, if_pos ((km_all T n p).1.mpr k0)]
      exact ⟨M, ⟨fs_refl _ _, fun _ _ _ _ _ _ _ _ => rfl⟩, Or.inl ⟨rfl, rfl, hr, hQ⟩⟩
    · rw [if_neg k0, if_neg (fun z => k0 ((km_all T n p).1.mp z))]
      obtain ⟨v, M1, a1, a2, a3⟩ := ln_m (N := N) hN hn hB hQ hW h e9 hr.1 hr.2.2.1
      rw [a1, nk_bd]
      rcases a3 with ⟨z, b1, b2, b3, b4, b5, b6⟩ | ⟨z, b1, b2⟩
      · have q6 := lnR_lt hn hp z
        rw [if_pos z]
        have r1 := rdm_add hr b3 b5 b6 (ldok_len ((lnR_good hn hp).2 z)) a2
        have hW1 : ∀ r ∈ Q ++ [tkE T n p], tkK T n r = 1 := by
          intro r hr
          rcases List.mem_append.mp hr with a | a
          · exact hW r a
          · rw [List.mem_singleton.mp a]; exact lnR_ok hn hp z
        obtain ⟨M2, c1, c2⟩ := ih (Q ++ [tkE T n p]) (D ++ [(lnR T n Q p).2.2]) (lnR T n Q p).2.1 q M1 (by rw [List.length_append]; show k + (Q.length + 1) = 7; omega) (by rw [List.length_append]; show Q.length + 1 ≤ 6; omega) (by omega) hW1 b4 b2 r1
        rw [b1]
        exact ⟨M2, ⟨fs_trans a2.1 c1.1, fun y a b c d e f g => (c1.2 y a b c d e f g).trans (a2.2.1 y a b c d e f g)⟩, c2⟩
      · rw [if_neg z, b1]
        refine ⟨M1, ⟨a2.1, a2.2.1⟩, Or.inr ⟨z, ?_⟩⟩
        obtain ⟨g, rfl⟩ : ∃ g, q = g + 1 := ⟨q - 1, by omega⟩
        show fn12_text_b52B N (fn12_text_b52 N g) 110 0 M1 = _
        unfold fn12_text_b52B fn12_text_b71
        rw [if_pos rfl, if_pos rfl, nk_k, sk110 (fs_shp a2.1 s), nk_dd, show 8 * am_I M1 110 10 + am_I M1 110 9 = (lnR T n Q p).1 from b2]
end
