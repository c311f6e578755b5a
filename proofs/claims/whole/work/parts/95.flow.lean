theorem dt_le9 {k : Nat} {ρ : Nat → Nat} {c : Nat → Nat → Int} {R : Nat → Nat} (h : ∀ i, i < k → SmN k (fun p => (c p (ρ i)).natAbs) ≤ R i) (hs : SmN k R ≤ 56) : (dt k ρ c).natAbs ≤ 1000000000 := by
  refine Nat.le_trans (dt_bd h) ?_
  refine Classical.byContradiction (fun q => ?_)
  have q' : 1000000000 ≤ PrN k R := by omega
  have a := prn_cub R k
  have b : 3 ^ SmN k R ≤ 3 ^ 56 := Nat.pow_le_pow_right (by decide) hs
  have d : 1000000000 * 1000000000 * 1000000000 ≤ PrN k R * PrN k R * PrN k R := Nat.mul_le_mul (Nat.mul_le_mul q' q') q'
  have e : (3 : Nat) ^ 56 < 1000000000 * 1000000000 * 1000000000 := by decide
  omega
/-- levels and currents before they are divided, and their divisor -/
def fV (a b : Nat → Nat) (W n p : Nat) : Int := vx n (cof (n - 1) (fun i => i) (Lap a b W)) p
def fC (a b : Nat → Nat) (W n w : Nat) : Int := fV a b W n (a w) - fV a b W n (b w)
def fG (a b : Nat → Nat) (W n : Nat) : Nat → Nat
  | 0 => 0
  | w + 1 => Nat.gcd (fG a b W n w) (fC a b W n w).natAbs
def fD (a b : Nat → Nat) (W n : Nat) : Int := dt n (fun i => i) (Lap a b W)
section
variable {a b : Nat → Nat} {W n : Nat}
theorem lap_small (hW : W ≤ 14) : ∀ k i j, k ≤ n → i < n → j ≤ n → (GJ (Lap a b W) n k i j).natAbs < 2147483648 := by
  intro k i j hk hi hj
  refine gj_small (R := fun i => dgr a b W i * 2 + (if i = 0 then 1 else 0)) hk hi hj (fun i hi => ?_) ?_
  · exact Nat.add_le_add_right (lap_row i) _
  · rw [smn_add]
    have h1 := dgr_sum (a := a) (b := b) (W := W) (n := n)
    have h2 := (smn_at 0 n).1
    omega
theorem fd_le (hW : W ≤ 14) (k : Nat) : (dt k (fun i => i) (Lap a b W)).natAbs ≤ 1000000000 := by
  refine dt_le9 (R := fun i => dgr a b W i * 2) (fun i hi => lap_row i) ?_
  have h1 := dgr_sum (a := a) (b := b) (W := W) (n := k)
  omega
theorem cof_le (hW : W ≤ 14) (m p : Nat) : (cof m (fun i => i) (Lap a b W) p).natAbs ≤ 1000000000 := by
  unfold cof
  rw [Int.natAbs_mul, sgn_abs, Nat.one_mul]
  refine dt_le9 (R := fun i => dgr a b W (i + 1) * 2) (fun i hi => ?_) ?_
  · refine Nat.le_trans ?_ (lap_row (n := m + 1) (i + 1))
    have s := smn_skp (fun q => (Lap a b W q (i + 1)).natAbs) p m
    rw [smn_congr (n := m) (g := fun q => if q < p then (Lap a b W q (i + 1)).natAbs else (Lap a b W (q + 1) (i + 1)).natAbs) (fun q hq => ?_)]
    · omega
    · by_cases l : q < p
      · rw [skp_lt _ l, if_pos l]
      · rw [skp_ge _ (by omega), if_neg l]
  · have h1 := dgr_sum (a := a) (b := b) (W := W) (n := m + 1)
    have s := smn_skp (fun i => dgr a b W i * 2) 0 m
    rw [smn_congr (n := m) (g := fun q => if q < 0 then dgr a b W q * 2 else dgr a b W (q + 1) * 2) (fun q hq => by rw [if_neg (Nat.not_lt_zero q)])]
    omega
theorem fv_lt {p : Nat} (hp : p < n) : fV a b W n p = cof (n - 1) (fun i => i) (Lap a b W) p := if_pos hp
theorem fv_ge {p : Nat} (hp : n ≤ p) : fV a b W n p = 0 := if_neg (by omega)
theorem fv_le (hW : W ≤ 14) (p : Nat) : (fV a b W n p).natAbs ≤ 1000000000 := by
  by_cases h : p < n
  · rw [fv_lt h]; exact cof_le hW _ p
  · rw [fv_ge (by omega)]; decide
theorem f_sol (hn : 0 < n) : Sol a b W n (cof (n - 1) (fun i => i) (Lap a b W)) (fD a b W n) := sol_cof (by omega)
theorem fv_nn (hn : 0 < n) (hd : 0 < fD a b W n) (p : Nat) : 0 ≤ fV a b W n p := by
  by_cases h : p < n
  · rw [fv_lt h]; exact sol_nn (by unfold fD at hd; omega) (f_sol hn) (by omega) h
  · rw [fv_ge (by omega)]; exact Int.le_refl _
theorem fg_dvd : ∀ w u, u < w → fG a b W n w ∣ (fC a b W n u).natAbs
  | 0, u, h => absurd h (Nat.not_lt_zero u)
  | w + 1, u, h => by
    show Nat.gcd (fG a b W n w) (fC a b W n w).natAbs ∣ _
    by_cases e : u = w
    · rw [e]; exact Nat.gcd_dvd_right _ _
    · exact Nat.dvd_trans (Nat.gcd_dvd_left _ _) (fg_dvd w u (by omega))
theorem fg_le (hW : W ≤ 14) : ∀ w, fG a b W n w ≤ 2000000000
  | 0 => Nat.zero_le _
  | w + 1 => by
    show Nat.gcd (fG a b W n w) (fC a b W n w).natAbs ≤ _
    have ih := fg_le hW w
    by_cases z : fG a b W n w = 0
    · rw [z, Nat.gcd_zero_left]
      unfold fC
      have h1 := fv_le (a := a) (b := b) (n := n) hW (a w)
      have h2 := fv_le (a := a) (b := b) (n := n) hW (b w)
      omega
    · exact Nat.le_trans (Nat.gcd_le_left _ (by omega)) ih
theorem fg_dvdI {w u : Nat} (h : u < w) : (fG a b W n w : Int) ∣ fC a b W n u := Int.ofNat_dvd_left.mpr (fg_dvd w u h)
theorem fg_pos (hn : 0 < n) (hd : 0 < fD a b W n) : 0 < fG a b W n W := by
  refine Classical.byContradiction (fun c => ?_)
  have z : fG a b W n W = 0 := by omega
  have s := sol_cur hn (f_sol (a := a) (b := b) (W := W) hn)
  rw [sm_zero (fun w hw => ?_)] at s
  · omega
  · have := fg_dvd (a := a) (b := b) (W := W) (n := n) W w hw
    rw [z] at this
    have t : (fC a b W n w).natAbs = 0 := Nat.eq_zero_of_zero_dvd this
    have t2 : fC a b W n w = 0 := by omega
    show dl a b w 0 * fC a b W n w = 0
    rw [t2, Int.mul_zero]
theorem fg_d (hn : 0 < n) : (fG a b W n W : Int) ∣ fD a b W n := by
  rw [← sol_cur hn (f_sol (a := a) (b := b) (W := W) hn)]
  exact sm_dvd (fun w hw => Int.dvd_trans (fg_dvdI hw) (Int.dvd_mul_left _ _))
theorem fg_v (hd : 0 < fD a b W n) (p : Nat) : (fG a b W n W : Int) ∣ fV a b W n p := by
  by_cases h : p < n
  · rw [fv_lt h]
    exact sol_dvd (a := a) (b := b) (W := W) (n := n) (by unfold fD at hd; omega) (fun w hw => fg_dvdI hw) h
  · rw [fv_ge (by omega)]; exact Int.dvd_zero _
/-- what the class's right column holds -/
theorem gj_fv (hn : 0 < n) (hd : ¬ fD a b W n = 0) {p : Nat} (hp : p < n) : GJ (Lap a b W) n n p n = fV a b W n p := by
  rw [fv_lt hp]
  exact sol_uni (v := fun p => GJ (Lap a b W) n n p n) hd (fun i hi => gj_v i hi) (f_sol hn) hp
end
