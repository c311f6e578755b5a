theorem smn_upd (f : Nat → Nat) (a v : Nat) : ∀ n, (a < n → SmN n (fun q => if q = a then v else f q) + f a = SmN n f + v) ∧ (n ≤ a → SmN n (fun q => if q = a then v else f q) = SmN n f)
  | 0 => ⟨fun h => absurd h (Nat.not_lt_zero a), fun _ => rfl⟩
  | n + 1 => by
    obtain ⟨h1, h2⟩ := smn_upd f a v n
    have e1 : SmN (n + 1) (fun q => if q = a then v else f q) = SmN n (fun q => if q = a then v else f q) + (if n = a then v else f n) := rfl
    have e2 : SmN (n + 1) f = SmN n f + f n := rfl
    rw [e1, e2]
    by_cases e : n = a
    · rw [if_pos e, h2 (by omega)]
      refine ⟨fun _ => ?_, fun h => by omega⟩
      rw [← e]; omega
    · rw [if_neg e]
      refine ⟨fun h => ?_, fun h => ?_⟩
      · have := h1 (by omega); omega
      · have := h2 (by omega); omega
theorem smn_tra (f : Nat → Nat) {a b n : Nat} (hab : a < b) (hb : b < n) : SmN n (fun q => f (tra a b q)) = SmN n f := by
  have e : SmN n (fun q => f (tra a b q)) = SmN n (fun q => if q = b then f a else (if q = a then f b else f q)) := smn_congr (fun q _ => by
    unfold tra
    by_cases e1 : q = a
    · rw [if_pos e1, if_neg (by omega), if_pos e1]
    · rw [if_neg e1, if_neg e1]
      by_cases e2 : q = b
      · rw [if_pos e2, if_pos e2]
      · rw [if_neg e2, if_neg e2])
  rw [e]
  have h1 := (smn_upd (fun q => if q = a then f b else f q) b (f a) n).1 hb
  have h2 := (smn_upd f a (f b) n).1 (by omega)
  rw [if_neg (show ¬ b = a by omega)] at h1
  omega
theorem bm_congr {k : Nat} {ρ ρ' : Nat → Nat} {c : Nat → Nat → Int} (h : ∀ l, l < k → ρ l = ρ' l) (r : Nat) (w : Nat → Int) : bm k ρ c r w = bm k ρ' c r w := by
  unfold bm
  refine dt_congr (fun p hp i hi => ?_)
  by_cases e : i = k
  · rw [e, upr_eq, upr_eq]
  · rw [upr_ne _ _ e, upr_ne _ _ e, h i (by omega)]
section
variable {n : Nat} {c : Nat → Nat → Int} {R : Nat → Nat}
/-- what the reference's matrix holds after k steps -/
def DtM (M : am_Mem) (n k : Nat) (ρ : Nat → Nat) (c : Nat → Nat → Int) : Prop := ∀ i, k ≤ i → i < n → ∀ j, k ≤ j → j < n → am_J M 133 (8 * i + j) = lI (bm k ρ c (ρ i) (c j))
theorem de_c {N : Nat} {D : Int} (hN : 100000 ≤ N) (hn : n ≤ 8) : ∀ m k (ρ : Nat → Nat) (σ : Int) fuel M, k + m = n → m < fuel → Shp M → (∀ i, i < n → SmN n (fun p => (c p (ρ i)).natAbs) ≤ R (ρ i)) → SmN n (fun i => R (ρ i)) ≤ 56 → DtM M n k ρ c → ¬ dt k ρ c = 0 → (dt k ρ c).natAbs < 2147483648 → σ * dt n ρ c = D → ∃ M', fn12_determinant_b8 N fuel 110 (nI n) (lI (dt k ρ c)) (lI σ) (nI k) M = some (lI D, M') ∧ Fs [133] M M' := by
  intro m
  induction m with
  | zero =>
    intro k ρ σ fuel M hk hf s hr hs h d0 hd hD
    obtain ⟨g, rfl⟩ : ∃ g, fuel = g + 1 := ⟨fuel - 1, by omega⟩
    have e : k = n := by omega
    subst e
    refine ⟨M, ?_, fs_refl _ _⟩
    show fn12_determinant_b8B N (fn12_determinant_b8 N g) 110 (nI k) (lI (dt k ρ c)) (lI σ) (nI k) M = _
    unfold fn12_determinant_b8B
    rw [if_pos (nI_le (Nat.le_refl k) (by omega)), ← hD]
    unfold lI
    rw [Int64.ofInt_mul]
  | succ m ih =>
    intro k ρ σ fuel M hk hf s hr hs h d0 hd hD
    obtain ⟨g, rfl⟩ : ∃ g, fuel = g + 1 := ⟨fuel - 1, by omega⟩
    have kn : k < n := by omega
    have small : ∀ ρ' : Nat → Nat, (∀ i, i < n → SmN n (fun p => (c p (ρ' i)).natAbs) ≤ R (ρ' i)) → SmN n (fun i => R (ρ' i)) ≤ 56 → ∀ i y, k ≤ i → i < n → k ≤ y → y < n → (bm k ρ' c (ρ' i) (c y)).natAbs < 2147483648 := by
      intro ρ' hr' hs' i y hi1 hi2 hy1 hy2
      refine bm_small (R := fun i => R (ρ' i)) (B := R (ρ' i)) hy1 hy2 (fun l hl => hr' l (by omega)) (hr' i hi2) ?_
      have := smn_pick (fun i => R (ρ' i)) hi1 hi2
      omega
    have go : ∀ (ρ' : Nat → Nat) (σ' : Int) M1, Shp M1 → (∀ i, i < n → SmN n (fun p => (c p (ρ' i)).natAbs) ≤ R (ρ' i)) → SmN n (fun i => R (ρ' i)) ≤ 56 → DtM M1 n k ρ' c → dt k ρ' c = dt k ρ c → ¬ bm k ρ' c (ρ' k) (c k) = 0 → σ' * dt n ρ' c = D → ∃ M', fn12_determinant_b157 N (fn12_determinant_b8 N g) N 110 (nI n) (lI (dt k ρ c)) (lI σ') (nI k) (nI (k + 1)) M1 = some (lI D, M') ∧ Fs [133] M1 M' := by
      intro ρ' σ' M1 s1 hr' hs' h' ed pz hD'
      have d0' : ¬ dt k ρ' c = 0 := by rw [ed]; exact d0
      obtain ⟨M2, a1, a2, a3⟩ := de_mid (N := N) (k8 := fn12_determinant_b8 N g) (j4 := lI σ') (d := dt k ρ c) (A := fun i y => bm k ρ' c (ρ' i) (c y)) (B := fun i y => bm (k + 1) ρ' c (ρ' i) (c y)) hN hn kn hd d0 (small ρ' hr' hs') (fun i y hi1 hi2 hy1 hy2 => by
        show bm k ρ' c (ρ' i) (c y) * bm k ρ' c (ρ' k) (c k) - bm k ρ' c (ρ' i) (c k) * bm k ρ' c (ρ' k) (c y) = dt k ρ c * bm (k + 1) ρ' c (ρ' i) (c y)
        rw [← ed, bm_step d0', bm_d, Int.mul_comm (bm k ρ' c (ρ' i) (c y))]) (n - (k + 1)) (k + 1) N M1 (by omega) (by omega) (by omega) s1 (fun r hr1 hr2 y hy1 hy2 => h' r (by omega) hr2 y hy1 hy2) (fun y hy1 hy2 => h' k (Nat.le_refl k) kn y hy1 hy2) (fun r h1 h2 => by omega)
      have ek : bm k ρ' c (ρ' k) (c k) = dt (k + 1) ρ' c := bm_d
      have ps := small ρ' hr' hs' k k (Nat.le_refl k) kn (Nat.le_refl k) kn
      rw [ek] at pz ps
      obtain ⟨M3, b1, b2⟩ := ih (k + 1) ρ' σ' g M2 (by omega) (by omega) (fs_shp a2 s1) hr' hs' (fun i hi1 hi2 j hj1 hj2 => a3 i (by omega) hi2 j (by omega) hj2) pz ps hD'
      rw [a1]
      show ∃ M', fn12_determinant_b8 N g 110 (nI n) (lI (bm k ρ' c (ρ' k) (c k))) (lI σ') (nI (k + 1)) M2 = _ ∧ _
      rw [ek]
      exact ⟨M3, b1, fs_trans a2 b2⟩
    obtain ⟨y, y1, y2, y3, y4, y5⟩ := de_fnd (N := N) (k8 := fn12_determinant_b8 N g) (j4 := lI σ) (j2 := lI (dt k ρ c)) (E := fun i => bm k ρ c (ρ i) (c k)) hn kn s (fun i hi1 hi2 => ⟨h i hi1 hi2 k (Nat.le_refl k) kn, small ρ hr hs i k hi1 hi2 (Nat.le_refl k) kn⟩) (n - k) k N (by omega) (Nat.le_refl k) (by omega)
    have st : fn12_determinant_b8 N (g + 1) 110 (nI n) (lI (dt k ρ c)) (lI σ) (nI k) M = fn12_determinant_b48 N (fn12_determinant_b8 N g) 110 (nI n) (lI (dt k ρ c)) (lI σ) (nI k) (nI y) M := by
      show fn12_determinant_b8B N (fn12_determinant_b8 N g) 110 (nI n) (lI (dt k ρ c)) (lI σ) (nI k) M = _
      unfold fn12_determinant_b8B
      rw [if_neg (nI_ge (by omega) (by omega)), y3]
    rw [st]
    unfold fn12_determinant_b48
    by_cases yn : y = n
    · rw [if_pos (congrArg nI yn)]
      refine ⟨M, ?_, fs_refl _ _⟩
      rw [dt_nop kn d0 (fun l hl1 hl2 => y4 l hl1 (by omega)), Int.mul_zero] at hD
      rw [← hD]
      rfl
    · rw [if_neg (fun e => yn (nI_inj (by omega) (by omega) e))]
      have pz : ¬ bm k ρ c (ρ y) (c k) = 0 := y5 (by omega)
      by_cases yk : y = k
      · have st2 : fn12_determinant_b59 N (fn12_determinant_b8 N g) N 110 (nI n) (lI (dt k ρ c)) (lI σ) (nI k) (nI y) (0 : Int32) M = fn12_determinant_b157 N (fn12_determinant_b8 N g) N 110 (nI n) (lI (dt k ρ c)) (lI σ) (nI k) (nI (k + 1)) M := by
          obtain ⟨q, e⟩ : ∃ q, N = q + 1 := ⟨N - 1, by omega⟩
          rw [show fn12_determinant_b59 N (fn12_determinant_b8 N g) N = fn12_determinant_b59 N (fn12_determinant_b8 N g) (q + 1) from congrArg _ e]
          show fn12_determinant_b59B N (fn12_determinant_b8 N g) (fn12_determinant_b59 N (fn12_determinant_b8 N g) q) 110 (nI n) (lI (dt k ρ c)) (lI σ) (nI k) (nI y) (nI 0) M = _
          unfold fn12_determinant_b59B fn12_determinant_b134 fn12_determinant_b149 fn12_determinant_b151
          rw [if_neg (nI_ge (by omega) (by omega)), if_pos (congrArg nI yk), if_pos (congrArg nI yk), nI_1]
        rw [st2]
        exact go ρ σ M s hr hs h rfl (by rw [← yk] at pz ⊢; exact pz) hD
      · obtain ⟨M1, b1, b2, b3, b4⟩ := de_swp (N := N) (x := y) (k8 := fn12_determinant_b8 N g) (j4 := lI σ) (j2 := lI (dt k ρ c)) hn kn (by omega) yk n 0 N M (by omega) (by omega) s
        have b1' : fn12_determinant_b59 N (fn12_determinant_b8 N g) N 110 (nI n) (lI (dt k ρ c)) (lI σ) (nI k) (nI y) (0 : Int32) M = _ := b1
        rw [b1']
        unfold fn12_determinant_b134 fn12_determinant_b149 fn12_determinant_b151
        rw [if_neg (fun e => yk (nI_inj (by omega) (by omega) e)), nI_1, show -lI σ = lI (-σ) from (Int64.ofInt_neg σ).symm]
        have lo : ∀ l, l < k → ρ (tra k y l) = ρ l := fun l hl => by
          unfold tra
          rw [if_neg (by omega), if_neg (by omega)]
        have tk : tra k y k = y := if_pos rfl
        have ty : tra k y y = k := by unfold tra; rw [if_neg yk, if_pos rfl]
        have tn : ∀ i, i < n → tra k y i < n := fun i hi => by
          by_cases e1 : i = k
          · rw [e1, tk]; omega
          · by_cases e2 : i = y
            · rw [e2, ty]; exact kn
            · unfold tra; rw [if_neg e1, if_neg e2]; exact hi
        have bmr : ∀ r w, bm k (fun q => ρ (tra k y q)) c r w = bm k ρ c r w := fun r w => bm_congr (fun l hl => lo l hl) r w
        have swap : dt n (fun q => ρ (tra k y q)) c = - dt n ρ c := by
          have := dt_tra (k := n) c (y - k - 1) ρ k (by omega)
          rw [show k + (y - k - 1) + 1 = y by omega] at this
          exact this
        obtain ⟨M2, c1, c2⟩ := go (fun q => ρ (tra k y q)) (-σ) M1 (fs_shp b2 s) (fun i hi => hr (tra k y i) (tn i hi)) (by
          have := smn_tra (fun i => R (ρ i)) (show k < y by omega) (show y < n by omega)
          show SmN n (fun i => R (ρ (tra k y i))) ≤ 56
          rw [this]; exact hs) (fun i hi1 hi2 j hj1 hj2 => by
          rw [bmr]
          show am_J M1 133 (8 * i + j) = lI (bm k ρ c (ρ (tra k y i)) (c j))
          by_cases e1 : i = k
          · rw [e1, (b3 j (Nat.zero_le j) hj2).2, tk]; exact h y (by omega) (by omega) j hj1 hj2
          · by_cases e2 : i = y
            · rw [e2, (b3 j (Nat.zero_le j) hj2).1, ty]; exact h k (Nat.le_refl k) kn j hj1 hj2
            · rw [b4 _ (fun z z1 z2 => by omega), show tra k y i = i by unfold tra; rw [if_neg e1, if_neg e2]]
              exact h i hi1 hi2 j hj1 hj2) (dt_congr (fun p hp i hi => by rw [lo i hi])) (by
          rw [bmr]
          show ¬ bm k ρ c (ρ (tra k y k)) (c k) = 0
          rw [tk]; exact pz) (by rw [swap, Int.neg_mul, Int.mul_neg, Int.neg_neg]; exact hD)
        exact ⟨M2, c1, fs_trans b2 c2⟩
theorem de_ok {N : Nat} {M : am_Mem} {ρ : Nat → Nat} (hN : 100000 ≤ N) (hn : n ≤ 8) (s : Shp M) (hr : ∀ i, i < n → SmN n (fun p => (c p (ρ i)).natAbs) ≤ R (ρ i)) (hs : SmN n (fun i => R (ρ i)) ≤ 56) (h : ∀ i, i < n → ∀ j, j < n → am_J M 133 (8 * i + j) = lI (c j (ρ i))) : ∃ M', fn12_determinant N M 110 (nI n) = some (lI (dt n ρ c), M') ∧ Fs [133] M M' :=
  de_c (D := dt n ρ c) (R := R) hN hn n 0 ρ 1 N M (by omega) (by omega) s hr hs (fun i _ hi j _ hj => by rw [bm_0]; exact h i hi j hj) (show ¬ (1 : Int) = 0 by decide) (show (1 : Int).natAbs < 2147483648 by decide) (Int.one_mul _)
end
