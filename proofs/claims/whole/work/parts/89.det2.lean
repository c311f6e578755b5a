section
variable {ρ : Nat → Nat} {k : Nat}
theorem dt_lin1 (c : Nat → Nat → Int) (r : Nat) (h : r < k) (u v : Nat → Int) (b : Int) : dt k ρ (upc c r (fun i => u i + b * v i)) = dt k ρ (upc c r u) + b * dt k ρ (upc c r v) := by
  have e := dt_lin (ρ := ρ) 1 b u v c r h
  rw [Int.one_mul] at e
  rw [← e]
  refine dt_congr (fun p hp i hi => ?_)
  by_cases g : p = r
  · rw [g, upc_eq, upc_eq]
    show u (ρ i) + b * v (ρ i) = 1 * u (ρ i) + b * v (ρ i)
    rw [Int.one_mul]
  · rw [upc_ne _ _ g, upc_ne _ _ g]
/-- a column that is a sum of the columns -/
theorem dt_sum (c : Nat → Nat → Int) (r : Nat) (h : r < k) (e : Nat → Int) : ∀ m, m ≤ k → dt k ρ (upc c r (fun i => Sm m (fun p => e p * c p i))) = if r < m then e r * dt k ρ c else 0
  | 0, _ => by
    rw [if_neg (Nat.not_lt_zero r)]
    refine dt_zc h (fun i _ => ?_)
    rw [upc_eq]; rfl
  | m + 1, hm => by
    have s := dt_lin1 (ρ := ρ) c r h (fun i => Sm m (fun p => e p * c p i)) (c m) (e m)
    show dt k ρ (upc c r (fun i => Sm m (fun p => e p * c p i) + e m * c m i)) = _
    rw [s, dt_sum c r h e m (by omega)]
    by_cases g : r = m
    · rw [if_neg (by omega), if_pos (by omega), g, upc_self]; omega
    · rw [dt_same c h (by omega) g]
      by_cases l : r < m
      · rw [if_pos l, if_pos (by omega)]; omega
      · rw [if_neg l, if_neg (by omega)]; omega
theorem dt_comb (c : Nat → Nat → Int) (r m : Nat) (h : r < k) (hm : m ≤ r) (d : Int) (w : Nat → Int) (e : Nat → Int) : dt k ρ (upc c r (fun i => d * w i + Sm m (fun p => e p * c p i))) = d * dt k ρ (upc c r w) := by
  have a := dt_lin (ρ := ρ) d 1 w (fun i => Sm m (fun p => e p * c p i)) c r h
  rw [dt_sum c r h e m (by omega), if_neg (by omega), Int.mul_zero, Int.add_zero] at a
  rw [← a]
  refine dt_congr (fun p hp i hi => ?_)
  by_cases g : p = r
  · rw [g, upc_eq, upc_eq]
    show d * w (ρ i) + Sm m (fun p => e p * c p (ρ i)) = d * w (ρ i) + 1 * Sm m (fun p => e p * c p (ρ i))
    rw [Int.one_mul]
  · rw [upc_ne _ _ g, upc_ne _ _ g]
/-- nothing but nothing is taken to nothing -/
theorem dt_ker (c : Nat → Nat → Int) (x : Nat → Int) (z : ∀ i, i < k → Sm k (fun p => x p * c p (ρ i)) = 0) {r : Nat} (h : r < k) : x r * dt k ρ c = 0 := by
  have a := dt_sum (ρ := ρ) c r h x k (Nat.le_refl k)
  rw [if_pos h] at a
  rw [← a]
  refine dt_zc h (fun i hi => ?_)
  rw [upc_eq]
  exact z i hi
end
theorem skp_skp {a b : Nat} (h : a < b) (c : Nat → Nat → Int) : skp (b - 1) (skp a c) = skp a (skp b c) := by
  funext q
  by_cases g : q < a
  · rw [skp_lt _ (by omega), skp_lt _ g, skp_lt _ g, skp_lt _ (by omega)]
  · rw [skp_ge (p := a) (q := q) _ (by omega)]
    by_cases l : q < b - 1
    · rw [skp_lt _ l, skp_ge _ (by omega), skp_lt _ (by omega)]
    · rw [skp_ge _ (by omega), skp_ge _ (by omega), skp_ge _ (by omega)]
/-- the last two rows -/
theorem dt_two (r : Nat) (ρ : Nat → Nat) (c : Nat → Nat → Int) : dt (r + 2) ρ c = Sm (r + 2) (fun b => Sm b (fun a => sgn (a + b) * (c a (ρ (r + 1)) * c b (ρ r) - c b (ρ (r + 1)) * c a (ρ r)) * dt r ρ (skp a (skp b c)))) := by
  have e : dt (r + 2) ρ c = Sm (r + 2) (fun p => Sm (r + 1) (fun q => sgn (r + 1 + p) * c p (ρ (r + 1)) * (sgn (r + q) * skp p c q (ρ r) * dt r ρ (skp q (skp p c))))) := by
    show Sm (r + 2) (fun p => sgn (r + 1 + p) * c p (ρ (r + 1)) * dt (r + 1) ρ (skp p c)) = _
    refine sm_congr (fun p hp => ?_)
    rw [sm_mul]
    rfl
  rw [e, sm_dbl]
  refine sm_congr (fun b hb => sm_congr (fun a ha => ?_))
  have s1 : sgn (r + 1 + b) * sgn (r + a) = - sgn (a + b) := by
    rw [show r + 1 + b = (r + b) + 1 by omega, sgn_s, Int.neg_mul, ← sgn_add, show r + b + (r + a) = (r + r) + (a + b) by omega, sgn_add, sgn_2, Int.one_mul]
  have s2 : sgn (r + 1 + a) * sgn (r + (b - 1)) = sgn (a + b) := by
    rw [← sgn_add, show r + 1 + a + (r + (b - 1)) = (r + r) + (a + b) by omega, sgn_add, sgn_2, Int.one_mul]
  show sgn (r + 1 + b) * c b (ρ (r + 1)) * (sgn (r + a) * skp b c a (ρ r) * dt r ρ (skp a (skp b c))) + sgn (r + 1 + a) * c a (ρ (r + 1)) * (sgn (r + (b - 1)) * skp a c (b - 1) (ρ r) * dt r ρ (skp (b - 1) (skp a c))) = _
  rw [skp_skp ha, skp_lt _ ha, skp_ge _ (by omega), show b - 1 + 1 = b by omega]
  have g1 : sgn (r + 1 + b) * c b (ρ (r + 1)) * (sgn (r + a) * c a (ρ r) * dt r ρ (skp a (skp b c))) = (sgn (r + 1 + b) * sgn (r + a)) * (c b (ρ (r + 1)) * c a (ρ r)) * dt r ρ (skp a (skp b c)) := by grind
  have g2 : sgn (r + 1 + a) * c a (ρ (r + 1)) * (sgn (r + (b - 1)) * c b (ρ r) * dt r ρ (skp a (skp b c))) = (sgn (r + 1 + a) * sgn (r + (b - 1))) * (c a (ρ (r + 1)) * c b (ρ r)) * dt r ρ (skp a (skp b c)) := by grind
  rw [g1, g2, s1, s2]
  grind
/-- two rows beside each other, one for the other -/
theorem dt_swr (ρ : Nat → Nat) : ∀ {k : Nat} (c : Nat → Nat → Int) (r : Nat), r + 1 < k → dt k (fun q => ρ (swa r q)) c = - dt k ρ c
  | 0, _, r, h => absurd h (Nat.not_lt_zero _)
  | 1, _, r, h => by omega
  | k + 2, c, r, h => by
    by_cases e : r = k
    · rw [dt_two, dt_two, e]
      rw [show (-Sm (k + 2) (fun b => Sm b (fun a => sgn (a + b) * (c a (ρ (k + 1)) * c b (ρ k) - c b (ρ (k + 1)) * c a (ρ k)) * dt k ρ (skp a (skp b c)))) : Int) = -1 * Sm (k + 2) (fun b => Sm b (fun a => sgn (a + b) * (c a (ρ (k + 1)) * c b (ρ k) - c b (ρ (k + 1)) * c a (ρ k)) * dt k ρ (skp a (skp b c)))) by omega, ← sm_mul]
      refine sm_congr (fun b hb => ?_)
      rw [← sm_mul]
      refine sm_congr (fun a ha => ?_)
      rw [swa_r, swa_r1, dt_congr (k := k) (ρ := fun q => ρ (swa k q)) (ρ' := ρ) (c := skp a (skp b c)) (c' := skp a (skp b c)) (fun p hp i hi => by rw [swa_ne (by omega) (by omega)])]
      grind
    · show Sm (k + 2) (fun p => sgn (k + 1 + p) * c p (ρ (swa r (k + 1))) * dt (k + 1) (fun q => ρ (swa r q)) (skp p c)) = - Sm (k + 2) (fun p => sgn (k + 1 + p) * c p (ρ (k + 1)) * dt (k + 1) ρ (skp p c))
      rw [show (-Sm (k + 2) (fun p => sgn (k + 1 + p) * c p (ρ (k + 1)) * dt (k + 1) ρ (skp p c)) : Int) = -1 * Sm (k + 2) (fun p => sgn (k + 1 + p) * c p (ρ (k + 1)) * dt (k + 1) ρ (skp p c)) by omega, ← sm_mul]
      refine sm_congr (fun p hp => ?_)
      rw [swa_ne (by omega) (by omega), dt_swr ρ (k := k + 1) (skp p c) r (by omega)]
      grind
theorem dt_eqr {k : Nat} (c : Nat → Nat → Int) : ∀ (d : Nat) (ρ : Nat → Nat) (r : Nat), r + d + 1 < k → ρ r = ρ (r + d + 1) → dt k ρ c = 0
  | 0, ρ, r, h, e => by
    have s := dt_swr ρ c r h
    have : (fun q => ρ (swa r q)) = ρ := by
      funext q
      by_cases e1 : q = r
      · rw [e1, swa_r]; exact e.symm
      · by_cases e2 : q = r + 1
        · rw [e2, swa_r1]; exact e
        · rw [swa_ne e1 e2]
    rw [this] at s
    omega
  | d + 1, ρ, r, h, e => by
    have s := dt_swr (k := k) ρ c (r + d + 1) (by omega)
    have z := dt_eqr (k := k) c d (fun q => ρ (swa (r + d + 1) q)) r (by omega) (by
      show ρ (swa (r + d + 1) r) = ρ (swa (r + d + 1) (r + d + 1))
      rw [swa_ne (by omega) (by omega), swa_r]
      exact e)
    omega
/-- any two rows, one for the other -/
def tra (a b q : Nat) : Nat := if q = a then b else if q = b then a else q
theorem dt_tra {k : Nat} (c : Nat → Nat → Int) : ∀ (d : Nat) (ρ : Nat → Nat) (a : Nat), a + d + 1 < k → dt k (fun q => ρ (tra a (a + d + 1) q)) c = - dt k ρ c
  | 0, ρ, a, h => dt_swr ρ c a h
  | d + 1, ρ, a, h => by
    have s1 := dt_swr (k := k) (fun q => ρ (tra a (a + (d + 1) + 1) q)) c a (by omega)
    have s2 := dt_tra (k := k) c d (fun q => ρ (swa a q)) (a + 1) (by omega)
    have s3 := dt_swr (k := k) ρ c a (by omega)
    have e : (fun q => ρ (tra a (a + (d + 1) + 1) (swa a q))) = fun q => ρ (swa a (tra (a + 1) (a + 1 + d + 1) q)) := by
      funext q
      congr 1
      unfold tra swa
      by_cases e1 : q = a
      · rw [if_pos e1, if_neg (show ¬ q = a + 1 by omega), if_neg (show ¬ q = a + 1 + d + 1 by omega), if_pos e1, if_neg (by omega), if_neg (by omega)]
      · by_cases e2 : q = a + 1
        · rw [if_neg e1, if_pos e2, if_pos rfl, if_pos e2, if_neg (by omega), if_neg (by omega)]; omega
        · by_cases e3 : q = a + 1 + d + 1
          · rw [if_neg e1, if_neg e2, if_neg e1, if_pos (by omega), if_neg e2, if_pos e3, if_neg (by omega), if_pos rfl]
          · rw [if_neg e1, if_neg e2, if_neg e1, if_neg (by omega), if_neg e2, if_neg e3, if_neg e1, if_neg e2]
    have s1' : dt k (fun q => ρ (tra a (a + (d + 1) + 1) (swa a q))) c = - dt k (fun q => ρ (tra a (a + (d + 1) + 1) q)) c := s1
    rw [e] at s1'
    have s2' : dt k (fun q => ρ (swa a (tra (a + 1) (a + 1 + d + 1) q))) c = - dt k (fun q => ρ (swa a q)) c := s2
    omega
/-- minors with one row and one column beside the first k -/
def bm (k : Nat) (ρ : Nat → Nat) (c : Nat → Nat → Int) (i : Nat) (w : Nat → Int) : Int := dt (k + 1) (upr ρ k i) (upc c k w)
section
variable {ρ : Nat → Nat} {k : Nat} {c : Nat → Nat → Int}
theorem bm_row (ρ : Nat → Nat) (k : Nat) (c : Nat → Nat → Int) (w : Nat → Int) : ∃ e : Nat → Int, ∀ i, bm k ρ c i w = dt k ρ c * w i + Sm k (fun p => e p * c p i) := by
  refine ⟨fun p => sgn (k + p) * dt k ρ (skp p (upc c k w)), fun i => ?_⟩
  show Sm k (fun p => sgn (k + p) * upc c k w p (upr ρ k i k) * dt k (upr ρ k i) (skp p (upc c k w))) + sgn (k + k) * upc c k w k (upr ρ k i k) * dt k (upr ρ k i) (skp k (upc c k w)) = _
  have hr : ∀ c', dt k (upr ρ k i) c' = dt k ρ c' := fun c' => dt_congr (fun p hp j hj => by rw [upr_ne _ _ (by omega)])
  rw [upr_eq, upc_eq, sgn_2, hr, skp_upc, Int.one_mul, dt_congr (k := k) (ρ := ρ) (ρ' := ρ) (c := skp k c) (c' := c) (fun p hp j hj => by rw [skp_lt _ hp])]
  rw [sm_congr (n := k) (g := fun p => sgn (k + p) * dt k ρ (skp p (upc c k w)) * c p i) (fun p hp => by
    rw [hr, upc_ne _ _ (by omega)]; grind)]
  rw [Int.mul_comm (w i), Int.add_comm]
theorem bm_old {l : Nat} (hl : l < k) (w : Nat → Int) : bm k ρ c (ρ l) w = 0 := by
  unfold bm
  refine dt_eqr _ (k - l - 1) _ l (by omega) ?_
  rw [show l + (k - l - 1) + 1 = k by omega, upr_eq, upr_ne _ _ (by omega)]
theorem bm_0 (i : Nat) (w : Nat → Int) : bm 0 ρ c i w = w i := by
  obtain ⟨e, h⟩ := bm_row ρ 0 c w
  rw [h i]
  show 1 * w i + 0 = w i
  omega
theorem bm_d : bm k ρ c (ρ k) (c k) = dt (k + 1) ρ c := by
  unfold bm
  rw [upc_self]
  refine dt_congr (fun p hp i hi => ?_)
  by_cases e : i = k
  · rw [e, upr_eq]
  · rw [upr_ne _ _ e]
/-- the last column but nothing in the rows before -/
theorem dt_lst (z : ∀ l, l < k → c k (ρ l) = 0) : dt (k + 1) ρ c = c k (ρ k) * dt k ρ c := by
  show Sm k (fun p => sgn (k + p) * c p (ρ k) * dt k ρ (skp p c)) + sgn (k + k) * c k (ρ k) * dt k ρ (skp k c) = _
  rw [sm_zero (n := k) (fun p hp => ?_), sgn_2, Int.one_mul, Int.zero_add, dt_congr (k := k) (ρ := ρ) (ρ' := ρ) (c := skp k c) (c' := c) (fun p hp j hj => by rw [skp_lt _ hp])]
  rw [dt_zc (k := k) (r := k - 1) (by omega) (fun i hi => ?_), Int.mul_zero]
  rw [skp_ge _ (by omega), show k - 1 + 1 = k by omega]
  exact z i hi
/-- Sylvester's: one step of elimination without fractions -/
theorem bm_step (hd : ¬ dt k ρ c = 0) (i : Nat) (w : Nat → Int) : dt k ρ c * bm (k + 1) ρ c i w = dt (k + 1) ρ c * bm k ρ c i w - bm k ρ c i (c k) * bm k ρ c (ρ k) w := by
  obtain ⟨e1, h1⟩ := bm_row ρ k c (c k)
  obtain ⟨e2, h2⟩ := bm_row ρ k c w
  have hu : (fun i => bm k ρ c i (c k)) = fun i => dt k ρ c * c k i + Sm k (fun p => e1 p * c p i) := funext h1
  have hz : (fun i => bm k ρ c i w) = fun i => dt k ρ c * w i + Sm k (fun p => e2 p * upc c k (fun i => bm k ρ c i (c k)) p i) := by
    funext i
    rw [h2 i]
    refine congrArg _ (sm_congr (fun p hp => ?_))
    rw [upc_ne _ _ (by omega)]
  have hr : ∀ m c', m ≤ k + 1 → dt m (upr ρ (k + 1) i) c' = dt m ρ c' := fun m c' hm => dt_congr (fun p hp j hj => by rw [upr_ne _ _ (by omega)])
  have Y1 : dt (k + 2) (upr ρ (k + 1) i) (upc (upc c k (fun i => bm k ρ c i (c k))) (k + 1) (fun i => bm k ρ c i w)) = dt k ρ c * (dt k ρ c * bm (k + 1) ρ c i w) := by
    rw [hz, dt_comb _ (k + 1) k (by omega) (by omega), hu]
    have sw : upc (upc c k (fun i => dt k ρ c * c k i + Sm k (fun p => e1 p * c p i))) (k + 1) w = upc (upc c (k + 1) w) k (fun i => dt k ρ c * c k i + Sm k (fun p => e1 p * upc c (k + 1) w p i)) := by
      funext q
      by_cases a : q = k
      · rw [a, upc_ne _ _ (by omega), upc_eq, upc_eq]
        funext j
        refine congrArg _ (sm_congr (fun p hp => ?_))
        rw [upc_ne _ _ (by omega)]
      · rw [upc_ne (r := k) _ _ a]
        by_cases b : q = k + 1
        · rw [b, upc_eq, upc_eq]
        · rw [upc_ne _ _ b, upc_ne _ _ b, upc_ne _ _ a]
    rw [sw, dt_comb _ k k (by omega) (by omega)]
    have sw2 : upc (upc c (k + 1) w) k (c k) = upc c (k + 1) w := by
      funext q
      by_cases a : q = k
      · rw [a, upc_eq, upc_ne _ _ (by omega)]
      · rw [upc_ne _ _ a]
    rw [sw2]
    rfl
  have Y2 : dt (k + 2) (upr ρ (k + 1) i) (upc (upc c k (fun i => bm k ρ c i (c k))) (k + 1) (fun i => bm k ρ c i w)) = dt k ρ c * (dt (k + 1) ρ c * bm k ρ c i w - bm k ρ c i (c k) * bm k ρ c (ρ k) w) := by
    show Sm k (fun p => sgn (k + 1 + p) * upc (upc c k (fun i => bm k ρ c i (c k))) (k + 1) (fun i => bm k ρ c i w) p (upr ρ (k + 1) i (k + 1)) * dt (k + 1) (upr ρ (k + 1) i) (skp p (upc (upc c k (fun i => bm k ρ c i (c k))) (k + 1) (fun i => bm k ρ c i w)))) + sgn (k + 1 + k) * upc (upc c k (fun i => bm k ρ c i (c k))) (k + 1) (fun i => bm k ρ c i w) k (upr ρ (k + 1) i (k + 1)) * dt (k + 1) (upr ρ (k + 1) i) (skp k (upc (upc c k (fun i => bm k ρ c i (c k))) (k + 1) (fun i => bm k ρ c i w))) + sgn (k + 1 + (k + 1)) * upc (upc c k (fun i => bm k ρ c i (c k))) (k + 1) (fun i => bm k ρ c i w) (k + 1) (upr ρ (k + 1) i (k + 1)) * dt (k + 1) (upr ρ (k + 1) i) (skp (k + 1) (upc (upc c k (fun i => bm k ρ c i (c k))) (k + 1) (fun i => bm k ρ c i w))) = _
    rw [sm_zero (n := k) (fun p hp => ?_), upr_eq, upc_eq, upc_ne (q := k) _ _ (by omega), upc_eq, hr _ _ (Nat.le_refl _), hr _ _ (Nat.le_refl _), sgn_2, show k + 1 + k = (k + k) + 1 by omega, sgn_s, sgn_2, skp_upc]
    · rw [dt_lst (c := skp k (upc (upc c k (fun i => bm k ρ c i (c k))) (k + 1) (fun i => bm k ρ c i w))) (fun l hl => by rw [skp_ge _ (Nat.le_refl _), upc_eq]; exact bm_old hl w), dt_lst (c := skp (k + 1) (upc c k (fun i => bm k ρ c i (c k)))) (fun l hl => by rw [skp_lt _ (by omega), upc_eq]; exact bm_old hl (c k)), skp_ge _ (Nat.le_refl _), upc_eq, skp_lt (p := k + 1) _ (by omega), upc_eq]
      rw [dt_congr (k := k) (ρ := ρ) (ρ' := ρ) (c := skp k (upc (upc c k (fun i => bm k ρ c i (c k))) (k + 1) (fun i => bm k ρ c i w))) (c' := c) (fun p hp j hj => by rw [skp_lt _ hp, upc_ne _ _ (by omega), upc_ne _ _ (by omega)]), dt_congr (k := k) (ρ := ρ) (ρ' := ρ) (c := skp (k + 1) (upc c k (fun i => bm k ρ c i (c k)))) (c' := c) (fun p hp j hj => by rw [skp_lt _ (by omega), upc_ne _ _ (by omega)]), bm_d]
      grind
    · rw [hr _ _ (Nat.le_refl _), dt_lst (c := skp p (upc (upc c k (fun i => bm k ρ c i (c k))) (k + 1) (fun i => bm k ρ c i w))) (fun l hl => by rw [skp_ge _ (by omega), upc_eq]; exact bm_old hl w), dt_zc (k := k) (r := k - 1) (by omega) (fun j hj => ?_), Int.mul_zero, Int.mul_zero]
      rw [skp_ge _ (by omega), show k - 1 + 1 = k by omega, upc_ne _ _ (by omega), upc_eq]
      exact bm_old hj (c k)
  exact Int.eq_of_mul_eq_mul_left hd (Y1.symm.trans Y2)
/-- no pivot -/
theorem dt_nop {n : Nat} (hk : k < n) (hd : ¬ dt k ρ c = 0) (z : ∀ l, k ≤ l → l < n → bm k ρ c (ρ l) (c k) = 0) : dt n ρ c = 0 := by
  obtain ⟨e, h⟩ := bm_row ρ k c (c k)
  have a := dt_comb (ρ := ρ) (k := n) c k k hk (Nat.le_refl k) (dt k ρ c) (c k) e
  rw [upc_self, ← funext h] at a
  rw [dt_zc (k := n) (r := k) hk (fun i hi => ?_)] at a
  · rcases Int.mul_eq_zero.mp a.symm with q | q
    · exact absurd q hd
    · exact q
  · rw [upc_eq]
    by_cases l : i < k
    · exact bm_old l (c k)
    · exact z i (by omega) hi
end
