/-- numbers with their groups, as the reference holds them: a minus where the group is another -/
def sgG : Nat → List (Nat × Nat) → List Int32
  | _, [] => []
  | pr, (v, g) :: l => (if g = pr then nI v else -(nI v)) :: sgG g l
theorem sgG_same (g : Nat) (R : List (Nat × Nat)) : ∀ l : List Nat, sgG g (l.map (fun v => (v, g)) ++ R) = l.map nI ++ sgG g R
  | [] => rfl
  | v :: l => by
    show (if g = g then nI v else -(nI v)) :: sgG g (l.map (fun v => (v, g)) ++ R) = nI v :: (l.map nI ++ sgG g R)
    rw [if_pos rfl, sgG_same g R l]
theorem sgG_new {pr g : Nat} (h : ¬ g = pr) (R : List (Nat × Nat)) : ∀ l : List Nat, 1 ≤ l.length → sgG pr (l.map (fun v => (v, g)) ++ R) = sgL 1 l ++ sgG g R
  | [], hl => absurd hl (by decide)
  | v :: l, _ => by
    show (if g = pr then nI v else -(nI v)) :: sgG g (l.map (fun v => (v, g)) ++ R) = (sgX 1 v :: l.map nI) ++ sgG g R
    unfold sgX
    rw [if_neg h, if_neg z_1, sgG_same g R l]
    rfl
section
variable {T : Nat → Int32} {n t : Nat}
theorem gr_m {N p c : Nat} {M : am_Mem} (hN : 100000 ≤ N) (hn : n ≤ 600) (hB : ∀ x, x < n → isB (T x)) (ht : t < 6) (hc : c ≤ 24) (k3 : tkK T n p = 3) (h : MAt T n p M) (e9 : am_I M 110 9 = 0) (e11 : am_I M 110 11 = nI t) (e14 : am_I M 114 t = nI c) : ∃ v M', fn12_groupHere N M 110 = some (v, M') ∧ RfM M M' t ∧ (((gGr T n p c).1 = 0 ∧ v = 1 ∧ am_I M' 110 9 = 0 ∧ MAt T n (gGr T n p c).2.1 M' ∧ PutM M M' t c (sgL 1 (gGr T n p c).2.2)) ∨ (¬ (gGr T n p c).1 = 0 ∧ v = 0 ∧ FtM M' (gGr T n p c).1)) := by
  have s := h.1
  obtain ⟨M1, a1, a2, a3, a4⟩ := ma_nx hN hn hB h
  have W1 := rfm_nx t a2 a3
  have e91 := (a3 9 (by decide) (by decide) (by decide) (by decide)).trans e9
  have e111 := (a3 11 (by decide) (by decide) (by decide) (by decide)).trans e11
  have e141 : am_I M1 114 t = nI c := by rw [fs_I a2 (by decide)]; exact e14
  have m116 : am_I M1 116 = am_I M 116 := fs_I a2 (by decide)
  unfold fn12_groupHere fn12_groupHere_b0 fn12_groupHere_b14 gGr
  rw [nk_k, sk110 s, nk_dd, ma_k h, if_pos ((km_all T n p).2.2.2.1.mpr k3), nk_dd, mu_1 s e9, nk_bd, if_neg z_1, nk_k, sk110 s, nk_dd, a1, nk_bd]
  by_cases k2 : tkK T n (tkE T n p) = 2
  · rw [if_pos k2]
    obtain ⟨v, M2, b1, b2, b3⟩ := gn_m (N := N) hN hn hB ht (25 - c) (tkE T n p) c 1 N M1 (by omega) hc (by omega) (by rw [k2]; decide) a4 e91 e111 e141
    refine ⟨v, M2, b1, rfm_trans W1 b2, ?_⟩
    rcases b3 with ⟨d1, d2, d3, d4, d5⟩ | d
    · refine Or.inl ⟨d1, d2, d3, d4, d5.1, fun i hi => ?_, d5.2.2⟩
      rw [d5.2.1 i hi, m116]
    · exact Or.inr d
  · rw [if_neg k2]
    obtain ⟨q, e⟩ : ∃ q, N = q + 1 := ⟨N - 1, by omega⟩
    have st : fn12_groupHere_b29 N N 110 1 M1 = some (0, am_wI (am_wI M1 110 9 1) 110 10 (nI (tkS T n (tkE T n p)))) := by
      rw [show fn12_groupHere_b29 N N = fn12_groupHere_b29 N (q + 1) from congrArg _ e]
      show fn12_groupHere_b29B N (fn12_groupHere_b29 N q) 110 1 M1 = _
      unfold fn12_groupHere_b29B fn12_groupHere_b43 fn12_groupHere_b97
      rw [nk_k, sk110 a4.1, nk_dd, ma_k a4, if_neg (fun z => k2 ((km_all T n _).2.2.1.mp z)), nk_dd, mu_0 a4 e91 (by decide), nk_bd, if_pos rfl]
    exact ⟨0, _, st, rfm_trans W1 (rfm_mu M1 t 1 _), Or.inr ⟨ft_1 hn a4.2.2.1, rfl, mu_ft 1⟩⟩
theorem dl_m {N : Nat} (hN : 100000 ≤ N) (hn : n ≤ 600) (hB : ∀ x, x < n → isB (T x)) (ht : t < 6) : ∀ k g p c fuel pr M, k + g = 25 → g ≤ c → c ≤ 24 → k < fuel → ¬ g = pr → tkK T n p = 3 → MAt T n p M → am_I M 110 9 = 0 → am_I M 110 11 = nI t → am_I M 114 t = nI c → ∃ v M', fn12_drawnLine_b9 N fuel 110 M = some (v, M') ∧ RfM M M' t ∧ (((gGs T n k g p c).1 = 0 ∧ v = 1 ∧ am_I M' 110 9 = 0 ∧ MAt T n (gGs T n k g p c).2.1 M' ∧ PutM M M' t c (sgG pr (gGs T n k g p c).2.2)) ∨ (¬ (gGs T n k g p c).1 = 0 ∧ v = 0 ∧ FtM M' (gGs T n k g p c).1)) := by
  intro k
  induction k with
  | zero => intro g p c fuel pr M h1 h2 h3; omega
  | succ k ih =>
    intro g p c fuel pr M hk hg hc hf hpr k3 h e9 e11 e14
    obtain ⟨q, rfl⟩ : ∃ q, fuel = q + 1 := ⟨fuel - 1, by omega⟩
    have s := h.1
    have eg : gGs T n (k + 1) g p c = if tkK T n p = 3 then (if (gGr T n p c).1 = 0 then ((gGs T n k (g + 1) (gGr T n p c).2.1 (c + (gGr T n p c).2.2.length)).1, (gGs T n k (g + 1) (gGr T n p c).2.1 (c + (gGr T n p c).2.2.length)).2.1, (gGr T n p c).2.2.map (fun v => (v, g)) ++ (gGs T n k (g + 1) (gGr T n p c).2.1 (c + (gGr T n p c).2.2.length)).2.2) else ((gGr T n p c).1, p, [])) else (0, p, []) := rfl
    rw [eg, if_pos k3]
    obtain ⟨v, M1, a1, a2, a3⟩ := gr_m (N := N) hN hn hB ht hc k3 h e9 e11 e14
    show ∃ v M', fn12_drawnLine_b9B N (fn12_drawnLine_b9 N q) 110 M = _ ∧ _
    unfold fn12_drawnLine_b9B
    rw [nk_k, sk110 s, nk_dd, a1, nk_bd]
    rcases a3 with ⟨z, d2, d3, d4, d5⟩ | ⟨z, d2, d3⟩
    · rw [d2, if_neg z_1, nk_k, sk110 d4.1, nk_dd, ma_k d4, if_pos z]
      obtain ⟨l1, l2⟩ := gGr_len hn h.2.2.1 hc z
      have len : (sgL 1 (gGr T n p c).2.2).length = (gGr T n p c).2.2.length := by
        cases (gGr T n p c).2.2 with
        | nil => rfl
        | cons a l => show (sgX 1 a :: l.map nI).length = (a :: l).length; rw [List.length_cons, List.length_map, List.length_cons]
      have e142 := d5.1
      rw [len] at e142
      have e112 := (a2.2.1 11 (by decide) (by decide) (by decide) (by decide) (by decide) (by decide)).trans e11
      by_cases k3' : tkK T n (gGr T n p c).2.1 = 3
      · rw [if_pos ((km_all T n _).2.2.2.1.mpr k3')]
        obtain ⟨w, M2, b1, b2, b3⟩ := ih (g + 1) (gGr T n p c).2.1 (c + (gGr T n p c).2.2.length) q g M1 (by omega) (by omega) l2 (by omega) (by omega) k3' d4 d3 e112 e142
        refine ⟨w, M2, b1, rfm_trans a2 b2, ?_⟩
        rcases b3 with ⟨f1, f2, f3, f4, f5⟩ | f
        · refine Or.inl ⟨f1, f2, f3, f4, ?_⟩
          show PutM M M2 t c (sgG pr ((gGr T n p c).2.2.map (fun v => (v, g)) ++ (gGs T n k (g + 1) (gGr T n p c).2.1 (c + (gGr T n p c).2.2.length)).2.2))
          rw [sgG_new hpr _ _ l1]
          exact pum_app d5 (by rw [len]; exact f5)
        · exact Or.inr f
      · rw [if_neg (fun y => k3' ((km_all T n _).2.2.2.1.mp y))]
        obtain ⟨k', hk'⟩ : ∃ k', k = k' + 1 := ⟨k - 1, by omega⟩
        have ek : gGs T n k (g + 1) (gGr T n p c).2.1 (c + (gGr T n p c).2.2.length) = (0, (gGr T n p c).2.1, []) := by
          rw [hk']
          show (if tkK T n (gGr T n p c).2.1 = 3 then _ else (0, (gGr T n p c).2.1, [])) = _
          rw [if_neg k3']
        rw [ek]
        refine ⟨1, M1, rfl, a2, Or.inl ⟨rfl, rfl, d3, d4, ?_⟩⟩
        show PutM M M1 t c (sgG pr ((gGr T n p c).2.2.map (fun v => (v, g)) ++ []))
        rw [sgG_new hpr _ _ l1]
        show PutM M M1 t c (sgL 1 (gGr T n p c).2.2 ++ [])
        rw [List.append_nil]
        exact d5
    · rw [d2, if_pos rfl, if_neg z]
      exact ⟨0, M1, rfl, a2, Or.inr ⟨z, rfl, d3⟩⟩
end
