/-- where a search that stands with some wires laid comes to -/
def cfg (f : List Nat → Nat → Bool) (m K : Nat) (p : List Nat) (w c : Nat) : Rs := if p.length = K then (1, c, p) else unF f m K p (lpF f m (gsF f m (K - p.length - 1)) p (m - w) c)
section
variable {f : List Nat → Nat → Bool} {m K : Nat}
theorem un_stop : ∀ (p : List Nat) (q : Rs), ¬ q.1 = 0 → unF f m K p q = q
  | [], _, _ => rfl
  | _ :: _, _, h => if_neg h
theorem lp_skip {g : List Nat → Nat → Rs} {p : List Nat} {c : Nat} : ∀ k w x, w + k = x → x ≤ m → (∀ y, w ≤ y → y < x → ¬ f p y = true) → lpF f m g p (m - w) c = lpF f m g p (m - x) c
  | 0, w, x, e, _, _ => by rw [show w = x by omega]
  | k + 1, w, x, e, hx, h => by
    obtain ⟨n, en⟩ : ∃ n, m - w = n + 1 := ⟨m - w - 1, by omega⟩
    have e1 : lpF f m g p (n + 1) c = if f p (m - (n + 1)) = true then (if c = 20000 then (2, c, []) else if (g ((m - (n + 1)) :: p) (c + 1)).1 = 0 then lpF f m g p n (g ((m - (n + 1)) :: p) (c + 1)).2.1 else g ((m - (n + 1)) :: p) (c + 1)) else lpF f m g p n c := rfl
    rw [en, e1, show m - (n + 1) = w by omega, if_neg (h w (Nat.le_refl w) (by omega)), show n = m - (w + 1) by omega]
    exact lp_skip k (w + 1) x (by omega) hx (fun y h1 h2 => h y (by omega) h2)
theorem lp_at {g : List Nat → Nat → Rs} {p : List Nat} {c x : Nat} (hx : x < m) (h : f p x = true) : lpF f m g p (m - x) c = if c = 20000 then (2, c, []) else if (g (x :: p) (c + 1)).1 = 0 then lpF f m g p (m - (x + 1)) (g (x :: p) (c + 1)).2.1 else g (x :: p) (c + 1) := by
  obtain ⟨n, en⟩ : ∃ n, m - x = n + 1 := ⟨m - x - 1, by omega⟩
  have e1 : lpF f m g p (n + 1) c = if f p (m - (n + 1)) = true then (if c = 20000 then (2, c, []) else if (g ((m - (n + 1)) :: p) (c + 1)).1 = 0 then lpF f m g p n (g ((m - (n + 1)) :: p) (c + 1)).2.1 else g ((m - (n + 1)) :: p) (c + 1)) else lpF f m g p n c := rfl
  rw [en, e1, show m - (n + 1) = x by omega, if_pos h, show n = m - (x + 1) by omega]
theorem cfg_lay {p : List Nat} {w c x : Nat} (hp : p.length < K) (hwx : w ≤ x) (hx : x < m) (h : f p x = true) (nf : ∀ y, w ≤ y → y < x → ¬ f p y = true) (hc : ¬ c = 20000) : cfg f m K p w c = cfg f m K (x :: p) 0 (c + 1) := by
  unfold cfg
  rw [if_neg (by omega), lp_skip (x - w) w x (by omega) (by omega) nf, lp_at hx h, if_neg hc]
  obtain ⟨r, er⟩ : ∃ r, K - p.length - 1 = r := ⟨_, rfl⟩
  rw [er]
  cases r with
  | zero =>
    have e1 : gsF f m 0 (x :: p) (c + 1) = (1, c + 1, x :: p) := rfl
    rw [e1, if_neg (show ¬ 1 = 0 by decide), if_pos (show (x :: p).length = K by rw [List.length_cons]; omega)]
    exact un_stop _ _ (show ¬ 1 = 0 by decide)
  | succ r =>
    have e1 : gsF f m (r + 1) (x :: p) (c + 1) = lpF f m (gsF f m r) (x :: p) m (c + 1) := rfl
    rw [if_neg (show ¬ (x :: p).length = K by rw [List.length_cons]; omega), show K - (x :: p).length - 1 = r by rw [List.length_cons]; omega, Nat.sub_zero, ← e1]
    show _ = if (gsF f m (r + 1) (x :: p) (c + 1)).1 = 0 then unF f m K p (lpF f m (gsF f m (K - p.length - 1)) p (m - (x + 1)) (gsF f m (r + 1) (x :: p) (c + 1)).2.1) else gsF f m (r + 1) (x :: p) (c + 1)
    rw [er]
    by_cases q : (gsF f m (r + 1) (x :: p) (c + 1)).1 = 0
    · rw [if_pos q, if_pos q]
    · rw [if_neg q, if_neg q]
      exact un_stop _ _ q
theorem cfg_over {p : List Nat} {w c x : Nat} (hp : p.length < K) (hwx : w ≤ x) (hx : x < m) (h : f p x = true) (nf : ∀ y, w ≤ y → y < x → ¬ f p y = true) (hc : c = 20000) : cfg f m K p w c = (2, c, []) := by
  unfold cfg
  rw [if_neg (by omega), lp_skip (x - w) w x (by omega) (by omega) nf, lp_at hx h, if_pos hc]
  exact un_stop _ _ (show ¬ 2 = 0 by decide)
theorem cfg_none {p : List Nat} {w c : Nat} (hp : p.length < K) (hw : w ≤ m) (nf : ∀ y, w ≤ y → y < m → ¬ f p y = true) : cfg f m K p w c = unF f m K p (0, c, []) := by
  unfold cfg
  rw [if_neg (by omega), lp_skip (m - w) w m (by omega) (Nat.le_refl m) nf, Nat.sub_self]
  rfl
theorem cfg_pop {p : List Nat} {c x : Nat} (hp : p.length < K) : unF f m K (x :: p) (0, c, []) = cfg f m K p (x + 1) c := by
  unfold cfg
  rw [if_neg (show ¬ p.length = K by omega)]
  show (if (0 : Nat) = 0 then unF f m K p (lpF f m (gsF f m (K - p.length - 1)) p (m - (x + 1)) c) else (0, c, [])) = _
  rw [if_pos rfl]
theorem cfg_top (hK : 0 < K) : cfg f m K [] 0 0 = gsF f m K [] 0 := by
  unfold cfg
  rw [if_neg (show ¬ ([] : List Nat).length = K by show ¬ 0 = K; omega)]
  obtain ⟨k, rfl⟩ : ∃ k, K = k + 1 := ⟨K - 1, by omega⟩
  rfl
end
section
variable {a b : Nat → Nat} {W n N u K : Nat}
def scW (u : Nat) : List Nat := [u, 42, 43, 44, 45, 46, 47, 48, 49, 50, 51, 52, 53, 54, 55, 56, 57, 58, 59, 60, 61, 62, 63, 64, 65, 66, 67, 68, 69, 70, 71, 72, 73, 74, 75, 76, 77, 78, 79, 80, 81, 82, 83, 84, 85, 86, 87, 88, 89, 90, 91, 92]
theorem scW_in {y : Nat} (h1 : 42 ≤ y) (h2 : y ≤ 92) : y ∈ scW u := by
  have : ∀ z, z < 93 → 42 ≤ z → z ∈ scW 0 := by decide
  rcases List.mem_cons.mp (this y (by omega) h1) with e | e
  · omega
  · exact List.mem_cons_of_mem _ e
theorem scW_out {y : Nat} (h1 : ¬ y = u) (h2 : y < 42 ∨ 92 < y) : y ∉ scW u := by
  intro hm
  rcases List.mem_cons.mp hm with e | e
  · exact h1 e
  · have : ∀ z ∈ scW 42, 42 ≤ z ∧ z ≤ 92 := by decide
    have := this y (List.mem_cons_of_mem _ e)
    omega
theorem ncs_keep {M M' : am_Mem} (f : Fs (scW u) M M') (hu : 141 < u) (o : ∀ y, ¬ y = 7 → am_I M' u y = am_I M u y) (h : NcS M u a b W n K) : NcS M' u a b W n K := by
  obtain ⟨c1, c2, c3, c4, c5, c6, c7⟩ := h
  exact ⟨ntt_fs f c1, by rw [o 1 (by decide)]; exact c2, by rw [o 5 (by decide)]; exact c3, by rw [o 6 (by decide)]; exact c4, fun x hx => by rw [fs_I f (scW_out (by omega) (by omega))]; exact c5 x hx, fun x hx => by rw [fs_I f (scW_out (by omega) (by omega))]; exact c6 x hx, by rw [fs_I f (scW_out (by omega) (by omega))]; exact c7⟩
/-- a wire laid, the class -/
theorem lw_c {p : List Nat} {x : Nat} {M : am_Mem} (hN : 100000 ≤ N) (hu : 141 < u) (hn0 : 0 < n) (hW : W ≤ 14) (d0 : 0 < fD a b W n) (hp : p.length < 14) (pt : PtN (fitB (nSz a b W n) (nSt a b W n) (nW a b W n) (nH a b W n)) W p) (hx : x < W) (fit : fitB (nSz a b W n) (nSt a b W n) (nW a b W n) (nH a b W n) p x = true) (s : Shp M) (nc : NcS M u a b W n K) (ch : ChC M (nSz a b W n) (nW a b W n) p) (us : ∀ w, w < W → am_I M 43 w = if w ∈ p then 1 else 0) : ∃ M', fn4_layWire N M 39 (nI x) (nI p.length) = some ((), M') ∧ Fs (scW u) M M' ∧ am_I M' u = am_I M u ∧ am_J M' u = am_J M u ∧ ChC M' (nSz a b W n) (nW a b W n) (x :: p) ∧ (∀ w, w < W → am_I M' 43 w = if w ∈ x :: p then 1 else 0) := by
  have g0 : ¬ fG a b W n W = 0 := by have := fg_pos (a := a) (b := b) (W := W) hn0 d0; omega
  have wp := nw_pos (a := a) (b := b) (W := W) hn0 d0
  have wle := nw_le (a := a) (b := b) (W := W) hn0 hW d0
  have hle := nh_le (a := a) (b := b) (n := n) hW d0 g0
  obtain ⟨o1, o2, o3, o4, o5, o6, o7⟩ := pt_okm wp (fun w hw => sz_st hn0 d0 w hw) p pt
  have nl := nt_lt o1
  have dpn : dpO (opN (nSz a b W n) (nW a b W n) p) (ntO (opN (nSz a b W n) (nW a b W n) p)) ≤ nH a b W n := o4 _ nl
  obtain ⟨f1, f2, f3, f4⟩ := fit_iff.mp fit
  have hst := sz_st (a := a) (b := b) hn0 d0 x hx
  obtain ⟨r0, t0⟩ := s40t s (show p.length < 15 by omega)
  obtain ⟨r1, t1⟩ := s40t s (show p.length + 1 < 15 by omega)
  have fa : Fs [42, 43] M (am_wI (am_wI M 42 p.length (nI x)) 43 x ((1 : Int32) &&& 1)) := fs_trans (fs_wI _ _ _ (by decide)) (fs_wI _ _ _ (by decide))
  have x42 : ∀ j, am_I (am_wI (am_wI M 42 p.length (nI x)) 43 x ((1 : Int32) &&& 1)) 42 j = if j = p.length then nI x else am_I M 42 j := fun j => by rw [rI_ne _ _ _ (by decide), rI_if]
  have x43 : ∀ w, w < W → am_I (am_wI (am_wI M 42 p.length (nI x)) 43 x ((1 : Int32) &&& 1)) 43 w = if w ∈ x :: p then 1 else 0 := fun w hw => by
    rw [rI_if]
    by_cases e : w = x
    · rw [if_pos e, if_pos (by rw [e]; exact List.mem_cons_self)]; rfl
    · rw [if_neg e, rI_ne _ _ _ (by decide), us w hw]
      by_cases z : w ∈ p
      · rw [if_pos z, if_pos (List.mem_cons_of_mem _ z)]
      · rw [if_neg z, if_neg (fun y => (List.mem_cons.mp y).elim e z)]
  have c1 : (nI x).toNatClampNeg = x := nI_clamp (by omega)
  have c2 : (nI p.length).toNatClampNeg = p.length := nI_clamp (by omega)
  have c3 : (nI (p.length + 1)).toNatClampNeg = p.length + 1 := nI_clamp (by omega)
  have j1 : am_in (nI x) 14 = true := nk_in (by omega) (by decide)
  have j2 : am_in (nI p.length) 14 = true := nk_in (by omega) (by decide)
  have j3 : am_in (nI p.length) 15 = true := nk_in (by omega) (by decide)
  have j4 : am_in (nI (p.length + 1)) 15 = true := nk_in (by omega) (by decide)
  have st : fn4_layWire N M 39 (nI x) (nI p.length) = am_bd (fn6_copyFrom (am_wI (am_wI M 42 p.length (nI x)) 43 x ((1 : Int32) &&& 1)) (44 + 3 * (p.length + 1)) (44 + 3 * p.length)) (fun v10 M11 => am_ck (am_k M11 39 4) (am_ck (am_k M11 (am_R M11 39 0) 17) (am_ck (am_in (nI (p.length + 1)) (am_L M11 (am_R M11 39 0))) (am_ck (am_k M11 (am_R M11 39 1) 14) (am_ck (am_in (nI x) (am_L M11 (am_R M11 39 1))) (am_ck (am_k M11 (am_R M11 (am_R M11 39 0) (p.length + 1)) 6) (am_bd (fn6_lay N M11 (am_R M11 (am_R M11 39 0) (p.length + 1)) (am_I M11 (am_R M11 39 1) x)) (fun v19 M20 => some ((), M20))))))))) := by
    unfold fn4_layWire fn4_layWire_b0
    simp only [nk_k, sk39 s, eq_self, decide_true, nk_ck, sr39_2 s, sk42 s, sl42 s, j2, sr39_3 s, sk43 s, sl43 s, j1, sr39_0 s, sk40 s, sl40 s, nI_1, j4, j3, c1, c2, c3, r0, r1, t1.1]
  rw [st]
  have sa := fs_shp fa s
  have ta0 := out_fs fa t0
  have ta1 := out_fs fa t1
  have oa : ∀ y, 44 ≤ y → am_I (am_wI (am_wI M 42 p.length (nI x)) 43 x ((1 : Int32) &&& 1)) y = am_I M y := fun y hy => fs_I fa (by simp; omega)
  have ca : ChC (am_wI (am_wI M 42 p.length (nI x)) 43 x ((1 : Int32) &&& 1)) (nSz a b W n) (nW a b W n) p := chc_keep (fun y h1 _ => oa y h1) (fun j hj => by rw [x42, if_neg (by omega)]) ch
  revert fa x42 x43 sa ta0 ta1 oa ca
  generalize am_wI (am_wI M 42 p.length (nI x)) 43 x ((1 : Int32) &&& 1) = M1
  intro fa x42 x43 sa ta0 ta1 oa ca
  obtain ⟨M2, b1, b2, b3⟩ := cf_c ta0 ta1 (show (opN (nSz a b W n) (nW a b W n) p).length ≤ 15 by omega) (by omega) (chc_top ca)
  have s2 := fs_shp b2 sa
  obtain ⟨r12, t12⟩ := s40t s2 (show p.length + 1 < 15 by omega)
  have h41 : am_I M2 41 x = nI (nSz a b W n x) := by rw [fs_I b2 (by simp; omega), fs_I fa (by decide)]; exact nc.2.2.2.2.2.1 x hx
  obtain ⟨M3, d1, d2, d3⟩ := oc_lay (N := N) (cap := 15) hN (by decide) (show (opN (nSz a b W n) (nW a b W n) p).length < 15 by omega) o1 (by omega) f2 f3 (fun k hk => by have : dpO (opN (nSz a b W n) (nW a b W n) p) k ≤ nH a b W n := o4 k hk; omega) (by omega) t12 b3
  have s3 := fs_shp d2 s2
  rw [b1, nk_bd, nk_k, sk39 s2, nk_dd, sr39_0 s2, nk_k, sk40 s2, nk_dd, sl40 s2, j4, nk_ck, sr39_1 s2, nk_k, sk41 s2, nk_dd, sl41 s2, j1, nk_ck, r12, nk_k, t12.1, nk_dd, h41, d1, nk_bd]
  have f13 : Fs [44 + 3 * (p.length + 1), 44 + 3 * (p.length + 1) + 1, 44 + 3 * (p.length + 1) + 2] M1 M3 := fs_trans b2 d2
  have q13 : ∀ y, y < 44 + 3 * (p.length + 1) ∨ 44 + 3 * (p.length + 1) + 2 < y → am_I M3 y = am_I M1 y := fun y hy => fs_I f13 (by simp; omega)
  refine ⟨M3, rfl, fs_trans (fs_mono fa (fun y hy => ?_)) (fs_mono f13 (fun y hy => ?_)), ?_, ?_, ⟨chc_keep (fun y h1 h2 => q13 y (Or.inl h2)) (fun j hj => by rw [q13 42 (Or.inl (by omega))]) ca, ?_, d3⟩, fun w hw => by rw [q13 43 (Or.inl (by omega))]; exact x43 w hw⟩
  · simp only [List.mem_cons, List.not_mem_nil, or_false] at hy
    exact scW_in (by omega) (by omega)
  · simp only [List.mem_cons, List.not_mem_nil, or_false] at hy
    exact scW_in (by omega) (by omega)
  · rw [q13 u (Or.inr (by omega)), fs_I fa (by simp; omega)]
  · rw [fs_J f13 (by simp; omega), fs_J fa (by simp; omega)]
  · rw [q13 42 (Or.inl (by omega)), x42, if_pos rfl]
end
