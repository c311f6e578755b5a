/-- the cofactors of the first row -/
def cof (m : Nat) (ρ : Nat → Nat) (c : Nat → Nat → Int) (p : Nat) : Int := sgn p * dt m (fun i => ρ (i + 1)) (skp p c)
def cyc (j : Nat) (ρ : Nat → Nat) (q : Nat) : Nat := if q < j then ρ (q + 1) else if q = j then ρ 0 else ρ q
theorem dt_cyc {k : Nat} (c : Nat → Nat → Int) (ρ : Nat → Nat) : ∀ j, j < k → dt k (cyc j ρ) c = sgn j * dt k ρ c
  | 0, _ => by
    have : cyc 0 ρ = ρ := by
      funext q
      unfold cyc
      rw [if_neg (Nat.not_lt_zero q)]
      by_cases e : q = 0
      · rw [if_pos e, e]
      · rw [if_neg e]
    rw [this, show sgn 0 = 1 from rfl, Int.one_mul]
  | j + 1, h => by
    have e : cyc (j + 1) ρ = fun q => cyc j ρ (swa j q) := by
      funext q
      by_cases e1 : q = j
      · rw [e1, swa_r]; unfold cyc; rw [if_pos (by omega), if_neg (by omega), if_neg (by omega)]
      · by_cases e2 : q = j + 1
        · rw [e2, swa_r1]; unfold cyc; rw [if_neg (by omega), if_pos rfl, if_neg (by omega), if_pos rfl]
        · rw [swa_ne e1 e2]
          unfold cyc
          by_cases l : q < j
          · rw [if_pos l, if_pos (by omega)]
          · rw [if_neg l, if_neg (by omega), if_neg e1, if_neg e2]
    rw [e, dt_swr (cyc j ρ) c j h, dt_cyc c ρ j (by omega), sgn_s, Int.neg_mul]
section
variable {m : Nat} {ρ : Nat → Nat} {c : Nat → Nat → Int}
theorem cof_sum (m : Nat) (ρ : Nat → Nat) (c : Nat → Nat → Int) (i : Nat) : Sm (m + 1) (fun p => cof m ρ c p * c p i) = sgn m * dt (m + 1) (upr (fun i => ρ (i + 1)) m i) c := by
  show _ = sgn m * Sm (m + 1) (fun p => sgn (m + p) * c p (upr (fun i => ρ (i + 1)) m i m) * dt m (upr (fun i => ρ (i + 1)) m i) (skp p c))
  rw [← sm_mul]
  refine sm_congr (fun p hp => ?_)
  rw [upr_eq, dt_congr (k := m) (ρ := upr (fun i => ρ (i + 1)) m i) (ρ' := fun i => ρ (i + 1)) (c := skp p c) (c' := skp p c) (fun q hq j hj => by rw [upr_ne _ _ (by omega)]), sgn_add]
  unfold cof
  have := sgn_sq m
  grind
theorem cof_0 : Sm (m + 1) (fun p => cof m ρ c p * c p (ρ 0)) = dt (m + 1) ρ c := by
  rw [cof_sum, dt_congr (k := m + 1) (ρ := upr (fun i => ρ (i + 1)) m (ρ 0)) (ρ' := cyc m ρ) (c := c) (c' := c) (fun p hp i hi => ?_), dt_cyc c ρ m (by omega), ← Int.mul_assoc, sgn_sq, Int.one_mul]
  unfold cyc
  by_cases e : i = m
  · rw [e, upr_eq, if_neg (by omega), if_pos rfl]
  · rw [upr_ne _ _ e, if_pos (by omega)]
theorem cof_l {l : Nat} (h1 : 1 ≤ l) (h2 : l ≤ m) : Sm (m + 1) (fun p => cof m ρ c p * c p (ρ l)) = 0 := by
  rw [cof_sum, dt_eqr c (m - l) _ (l - 1) (by omega) ?_, Int.mul_zero]
  rw [show l - 1 + (m - l) + 1 = m by omega, upr_eq, upr_ne _ _ (by omega), show l - 1 + 1 = l by omega]
end
/-- how large: sums and products of natural numbers -/
def SmN : Nat → (Nat → Nat) → Nat
  | 0, _ => 0
  | n + 1, f => SmN n f + f n
def PrN : Nat → (Nat → Nat) → Nat
  | 0, _ => 1
  | n + 1, f => PrN n f * f n
theorem smn_le : ∀ {n : Nat} {f g : Nat → Nat}, (∀ i, i < n → f i ≤ g i) → SmN n f ≤ SmN n g
  | 0, _, _, _ => Nat.le_refl _
  | n + 1, f, g, h => Nat.add_le_add (smn_le (fun i hi => h i (by omega))) (h n (by omega))
theorem smn_congr : ∀ {n : Nat} {f g : Nat → Nat}, (∀ i, i < n → f i = g i) → SmN n f = SmN n g
  | 0, _, _, _ => rfl
  | n + 1, f, g, h => by
    show SmN n f + f n = SmN n g + g n
    rw [smn_congr (n := n) (fun i hi => h i (by omega)), h n (by omega)]
theorem smn_mul (a : Nat) (f : Nat → Nat) : ∀ n, SmN n (fun i => f i * a) = SmN n f * a
  | 0 => (Nat.zero_mul a).symm
  | n + 1 => by
    show SmN n (fun i => f i * a) + f n * a = (SmN n f + f n) * a
    rw [smn_mul a f n, Nat.add_mul]
theorem smn_add (f g : Nat → Nat) : ∀ n, SmN n (fun i => f i + g i) = SmN n f + SmN n g
  | 0 => rfl
  | n + 1 => by
    show SmN n (fun i => f i + g i) + (f n + g n) = (SmN n f + f n) + (SmN n g + g n)
    rw [smn_add f g n]; omega
theorem smn_comm (f : Nat → Nat → Nat) (m : Nat) : ∀ n, SmN n (fun i => SmN m (fun j => f i j)) = SmN m (fun j => SmN n (fun i => f i j))
  | 0 => by
    show 0 = SmN m (fun _ => 0)
    have : ∀ m, SmN m (fun _ => 0) = 0 := fun m => by
      induction m with
      | zero => rfl
      | succ m ih => show SmN m (fun _ => 0) + 0 = 0; rw [ih]
    rw [this]
  | n + 1 => by
    show SmN n (fun i => SmN m (fun j => f i j)) + SmN m (fun j => f n j) = SmN m (fun j => SmN n (fun i => f i j) + f n j)
    rw [smn_comm f m n, smn_add]
theorem smn_skp (f : Nat → Nat) (p : Nat) : ∀ k, SmN k (fun q => if q < p then f q else f (q + 1)) + (if p ≤ k then f p else f k) = SmN (k + 1) f
  | 0 => by
    show 0 + (if p ≤ 0 then f p else f 0) = 0 + f 0
    by_cases e : p ≤ 0
    · rw [if_pos e, show p = 0 by omega]
    · rw [if_neg e]
  | k + 1 => by
    have ih := smn_skp f p k
    show SmN k (fun q => if q < p then f q else f (q + 1)) + (if k < p then f k else f (k + 1)) + (if p ≤ k + 1 then f p else f (k + 1)) = SmN (k + 1) f + f (k + 1)
    by_cases a : p ≤ k
    · rw [if_pos a] at ih
      rw [if_neg (by omega), if_pos (by omega)]; omega
    · rw [if_neg a] at ih
      rw [if_pos (by omega)]
      by_cases b : p ≤ k + 1
      · have e : f p = f (k + 1) := congrArg f (by omega)
        rw [if_pos b]
        omega
      · rw [if_neg b]; omega
theorem sm_abs (f : Nat → Int) : ∀ n, (Sm n f).natAbs ≤ SmN n (fun i => (f i).natAbs)
  | 0 => Nat.le_refl _
  | n + 1 => by
    show (Sm n f + f n).natAbs ≤ SmN n (fun i => (f i).natAbs) + (f n).natAbs
    have := sm_abs f n
    omega
theorem sgn_abs (p : Nat) : (sgn p).natAbs = 1 := by
  unfold sgn
  by_cases h : p % 2 = 0
  · rw [if_pos h]; rfl
  · rw [if_neg h]; rfl
theorem dt_bd : ∀ {k : Nat} {ρ : Nat → Nat} {c : Nat → Nat → Int} {R : Nat → Nat}, (∀ i, i < k → SmN k (fun p => (c p (ρ i)).natAbs) ≤ R i) → (dt k ρ c).natAbs ≤ PrN k R
  | 0, _, _, _, _ => Nat.le_refl _
  | k + 1, ρ, c, R, h => by
    show (Sm (k + 1) (fun p => sgn (k + p) * c p (ρ k) * dt k ρ (skp p c))).natAbs ≤ PrN k R * R k
    refine Nat.le_trans (sm_abs _ _) ?_
    refine Nat.le_trans (smn_le (g := fun p => (c p (ρ k)).natAbs * PrN k R) (fun p hp => ?_)) ?_
    · rw [Int.natAbs_mul, Int.natAbs_mul, sgn_abs, Nat.one_mul]
      refine Nat.mul_le_mul_left _ (dt_bd (fun i hi => ?_))
      have s := smn_skp (fun q => (c q (ρ i)).natAbs) p k
      have hh := h i (by omega)
      rw [smn_congr (n := k) (g := fun q => if q < p then (c q (ρ i)).natAbs else (c (q + 1) (ρ i)).natAbs) (fun q hq => ?_)]
      · omega
      · by_cases l : q < p
        · rw [skp_lt _ l, if_pos l]
        · rw [skp_ge _ (by omega), if_neg l]
    · rw [smn_mul, Nat.mul_comm]
      exact Nat.mul_le_mul_left _ (h k (by omega))
theorem cub_le : ∀ x : Nat, x * x * x ≤ 3 ^ x
  | 0 => by decide
  | 1 => by decide
  | 2 => by decide
  | 3 => by decide
  | x + 4 => by
    have ih := cub_le (x + 3)
    have e : 3 ^ (x + 4) = 3 * 3 ^ (x + 3) := by rw [show x + 4 = (x + 3) + 1 from rfl, Nat.pow_succ, Nat.mul_comm]
    rw [e]
    have : (x + 4) * (x + 4) * (x + 4) ≤ 3 * ((x + 3) * (x + 3) * (x + 3)) := by grind
    omega
theorem prn_cub (R : Nat → Nat) : ∀ k, PrN k R * PrN k R * PrN k R ≤ 3 ^ SmN k R
  | 0 => show 1 * 1 * 1 ≤ 3 ^ 0 by decide
  | k + 1 => by
    show PrN k R * R k * (PrN k R * R k) * (PrN k R * R k) ≤ 3 ^ (SmN k R + R k)
    rw [Nat.pow_add, show PrN k R * R k * (PrN k R * R k) * (PrN k R * R k) = (PrN k R * PrN k R * PrN k R) * (R k * R k * R k) by grind]
    exact Nat.mul_le_mul (prn_cub R k) (cub_le (R k))
/-- no minor of these is as large as two to the thirty-first -/
theorem dt_small {k : Nat} {ρ : Nat → Nat} {c : Nat → Nat → Int} {R : Nat → Nat} (h : ∀ i, i < k → SmN k (fun p => (c p (ρ i)).natAbs) ≤ R i) (hs : SmN k R ≤ 58) : (dt k ρ c).natAbs < 2147483648 := by
  refine Nat.lt_of_le_of_lt (dt_bd h) ?_
  refine Classical.byContradiction (fun q => ?_)
  have q' : 2147483648 ≤ PrN k R := by omega
  have a := prn_cub R k
  have b : 3 ^ SmN k R ≤ 3 ^ 58 := Nat.pow_le_pow_right (by decide) hs
  have d : 2147483648 * 2147483648 * 2147483648 ≤ PrN k R * PrN k R * PrN k R := Nat.mul_le_mul (Nat.mul_le_mul q' q') q'
  have e : (3 : Nat) ^ 58 < 2147483648 * 2147483648 * 2147483648 := by decide
  omega
