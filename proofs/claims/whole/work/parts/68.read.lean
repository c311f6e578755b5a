section
variable {T : Nat → Int32} {n p : Nat}
theorem tk_1 (h : tkK T n p = 1) : tkB T n p = 1 ∧ IsW T (tkS T n p) (tkE T n p - tkS T n p) := by
  have b : tkB T n p = 1 ∧ tkE T n p - tkS T n p ≤ 6 := by
    unfold tkK at h
    by_cases b1 : tkB T n p = 1
    · rw [if_pos b1] at h
      by_cases q : tkE T n p - tkS T n p ≤ 6
      · exact ⟨b1, q⟩
      · rw [if_neg q] at h; exact absurd h (by decide)
    · rw [if_neg b1] at h
      by_cases b2 : tkB T n p = 2
      · rw [if_pos b2] at h
        split at h <;> exact absurd h (by decide)
      · rw [if_neg b2] at h; exact absurd h b1
  refine ⟨b.1, b.2, fun i hi => ?_⟩
  have eE : tkE T n p = tkF (fun j => isLt (T j)) n (tkS T n p) := by unfold tkE; rw [if_pos b.1]
  exact tkF_in (P := fun j => isLt (T j)) (n := n) _ (tkS T n p) rfl _ (by omega) (by omega)
theorem tk_2 (h : tkK T n p = 2) : tkB T n p = 2 ∧ IsD T (tkS T n p) (tkE T n p - tkS T n p) := by
  have b : ¬ tkB T n p = 1 ∧ tkB T n p = 2 ∧ tkE T n p - tkS T n p ≤ 4 := by
    unfold tkK at h
    by_cases b1 : tkB T n p = 1
    · rw [if_pos b1] at h
      split at h <;> exact absurd h (by decide)
    · rw [if_neg b1] at h
      by_cases b2 : tkB T n p = 2
      · rw [if_pos b2] at h
        by_cases q : tkE T n p - tkS T n p ≤ 4
        · exact ⟨b1, b2, q⟩
        · rw [if_neg q] at h; exact absurd h (by decide)
      · rw [if_neg b2] at h; exact absurd h b2
  refine ⟨b.2.1, b.2.2, fun i hi => ?_⟩
  have eE : tkE T n p = tkF (fun j => isDg (T j)) n (tkS T n p) := by unfold tkE; rw [if_neg b.1, if_pos b.2.1]
  exact tkF_in (P := fun j => isDg (T j)) (n := n) _ (tkS T n p) rfl _ (by omega) (by omega)
end
/-- the number at a token; a fault there -/
def tkV (T : Nat → Int32) (n p : Nat) : Nat := dN T (tkS T n p) (tkE T n p - tkS T n p)
def ft (T : Nat → Int32) (n p : Nat) (k : Int32) : Int32 := 8 * nI (tkS T n p) + k
/-- numbers of a group, up to the sign that closes it -/
def gNum (T : Nat → Int32) (n : Nat) : Nat → Nat → Nat → Int32 × Nat × List Nat
  | 0, p, _ => (0, p, [])
  | k + 1, p, c => if tkK T n p = 2 then (if tkV T n p < 1 then (ft T n p 3, p, []) else if 24 ≤ c then (ft T n p 4, p, []) else ((gNum T n k (tkE T n p) (c + 1)).1, (gNum T n k (tkE T n p) (c + 1)).2.1, tkV T n p :: (gNum T n k (tkE T n p) (c + 1)).2.2)) else if tkK T n p = 4 then (0, tkE T n p, []) else (ft T n p 1, p, [])
/-- the class stands at a token of its tape -/
def CAt (T : Nat → Int32) (n p : Nat) (M : am_Mem) : Prop := Shp M ∧ (∀ x, x < n → am_I M 3 x = T x) ∧ p ≤ n ∧ TokC T n p M
def MAt (T : Nat → Int32) (n p : Nat) (M : am_Mem) : Prop := Shp M ∧ (∀ x, x < n → am_I M 111 x = T x) ∧ p ≤ n ∧ TokM T n p M
section
variable {T : Nat → Int32} {n p : Nat} {M : am_Mem}
theorem ca_k (h : CAt T n p M) : am_I M 2 3 = tkK T n p := h.2.2.2.2.2.1
theorem ca_v (h : CAt T n p M) (k : tkK T n p = 2) : am_J M 2 5 = lN (tkV T n p) ∧ tkV T n p < 10000 := by
  obtain ⟨b, d⟩ := tk_2 k
  refine ⟨?_, dN_lt d⟩
  rw [h.2.2.2.2.2.2.2.2 b, dC_eq _ d.2]
  rfl
theorem ca_w (h : CAt T n p M) (k : tkK T n p = 1) : am_J M 2 5 = wC T (tkS T n p) (tkE T n p - tkS T n p) := h.2.2.2.2.2.2.2.1 (tk_1 k).1
theorem ma_k (h : MAt T n p M) : am_I M 110 6 = kM (tkK T n p) := h.2.2.2.2.2.2.1
theorem ma_v (h : MAt T n p M) (k : tkK T n p = 2) : am_I M 110 7 = nI (tkV T n p) := by
  obtain ⟨b, d⟩ := tk_2 k
  rw [h.2.2.2.2.2.2.2.2 b, dM_eq _ d.1 d.2]
  rfl
theorem ma_w (h : MAt T n p M) (k : tkK T n p = 1) : am_J M 110 8 = wM T (tkS T n p) (tkE T n p - tkS T n p) := h.2.2.2.2.2.2.2.1 (tk_1 k).1
theorem ca_ft (h : CAt T n p M) (k : Int32) : fn8_faultOf M 2 k = some (ft T n p k, M) := by
  unfold fn8_faultOf fn8_faultOf_b0 ft
  rw [nk_k, sk2 h.1, nk_dd, h.2.2.2.2.2.2.1]
theorem ca_fs {W : List Nat} {M' : am_Mem} (h : CAt T n p M) (f : Fs W M M') (h3 : 3 ∉ W) (h2 : 2 ∉ W) : CAt T n p M' := by
  obtain ⟨s, tp, hp, c1, c2, c3, c4, c5, c6⟩ := h
  refine ⟨fs_shp f s, fun x hx => by rw [fs_I f h3]; exact tp x hx, hp, ?_, ?_, ?_, ?_, ?_, ?_⟩
  · rw [fs_I f h2]; exact c1
  · rw [fs_I f h2]; exact c2
  · rw [fs_I f h2]; exact c3
  · rw [fs_I f h2]; exact c4
  · rw [fs_J f h2]; exact c5
  · rw [fs_J f h2]; exact c6
/-- one token on -/
theorem ca_nx {N : Nat} (hN : 100000 ≤ N) (hn : n ≤ 600) (h : CAt T n p M) : ∃ M', fn8_nextToken N M 2 = some ((), M') ∧ Fs [2] M M' ∧ (∀ x, ¬ x = 2 → ¬ x = 3 → ¬ x = 4 → am_I M' 2 x = am_I M 2 x) ∧ CAt T n (tkE T n p) M' := by
  have he := tkE_le (T := T) h.2.2.1
  obtain ⟨M', a1, a2, a3, a4⟩ := nx_c hN hn he h.1 h.2.1 h.2.2.2.1 h.2.2.2.2.1
  exact ⟨M', a1, a2, a3, fs_shp a2 h.1, fun x hx => by rw [fs_I a2 (by decide)]; exact h.2.1 x hx, he, a4⟩
theorem s8t (s : Shp M) {t : Nat} (ht : t < 6) : am_R M 7 t = 8 + t ∧ am_K M (8 + t) = 14 ∧ am_L M (8 + t) = 29 ∧ am_R M 14 t = 15 + t ∧ am_K M (15 + t) = 14 ∧ am_L M (15 + t) = 29 := by
  match t, ht with
  | 0, _ => exact ⟨sr7_0 s, sk8 s, sl8 s, sr14_0 s, sk15 s, sl15 s⟩
  | 1, _ => exact ⟨sr7_1 s, sk9 s, sl9 s, sr14_1 s, sk16 s, sl16 s⟩
  | 2, _ => exact ⟨sr7_2 s, sk10 s, sl10 s, sr14_2 s, sk17 s, sl17 s⟩
  | 3, _ => exact ⟨sr7_3 s, sk11 s, sl11 s, sr14_3 s, sk18 s, sl18 s⟩
  | 4, _ => exact ⟨sr7_4 s, sk12 s, sl12 s, sr14_4 s, sk19 s, sl19 s⟩
  | 5, _ => exact ⟨sr7_5 s, sk13 s, sl13 s, sr14_5 s, sk20 s, sl20 s⟩
/-- the class holds the value -/
theorem hv_c {t c : Nat} (ht : t < 6) (hc : c < 29) (h : CAt T n p M) (k : tkK T n p = 2) (e8 : am_I M 2 8 = nI t) (e6 : am_I M 6 t = nI c) : fn8_holdValue M 2 = some ((), am_wI (am_wI M (8 + t) c (nI (tkV T n p))) 6 t (nI (c + 1))) := by
  have s := h.1
  obtain ⟨r7, k8, l8, _, _, _⟩ := s8t s ht
  obtain ⟨v, _⟩ := ca_v h k
  have i1 : am_in (nI t) 6 = true := nk_in ht (by decide)
  have i2 : am_in (nI c) 29 = true := nk_in hc (by decide)
  have l1 : (nI t).toNatClampNeg = t := nI_clamp (by omega)
  have l2 : (nI c).toNatClampNeg = c := nI_clamp (by omega)
  have hle : ¬ (29 : Int32) ≤ nI c := nI_ge (b := 29) hc (by decide)
  have n1 : ¬ 2 = 8 + t := by omega
  have n2 : ¬ 6 = 8 + t := by omega
  unfold fn8_holdValue fn8_holdValue_b0 fn8_holdValue_b10 fn8_holdValue_b45
  simp only [nk_k, sk2 s, sr2_10 s, sr2_11 s, sk6 s, sl6 s, sk7 s, sl7 s, eq_self, decide_true, nk_ck, e8, i1, l1, e6, hle, if_false, r7, k8, l8, i2, l2, v, lN_i, rI_ne _ _ _ n1, rI_ne _ _ _ n2, nI_1]
end
