theorem sm_comm (f : Nat → Nat → Int) (m : Nat) : ∀ n, Sm n (fun i => Sm m (fun j => f i j)) = Sm m (fun j => Sm n (fun i => f i j))
  | 0 => (sm_zero (fun _ _ => rfl)).symm
  | n + 1 => by
    show Sm n (fun i => Sm m (fun j => f i j)) + Sm m (fun j => f n j) = Sm m (fun j => Sm n (fun i => f i j) + f n j)
    rw [sm_comm f m n, sm_add]
theorem sm_cut {f : Nat → Int} {m : Nat} : ∀ {n : Nat}, m ≤ n → (∀ i, m ≤ i → i < n → f i = 0) → Sm n f = Sm m f
  | 0, h, _ => by rw [show m = 0 by omega]
  | n + 1, h, z => by
    by_cases e : m = n + 1
    · rw [e]
    · show Sm n f + f n = Sm m f
      rw [sm_cut (n := n) (by omega) (fun i a b => z i a (by omega)), z n (by omega) (by omega), Int.add_zero]
theorem sm_nn {f : Nat → Int} : ∀ {n : Nat}, (∀ i, i < n → 0 ≤ f i) → 0 ≤ Sm n f
  | 0, _ => Int.le_refl _
  | n + 1, h => by
    have a := sm_nn (n := n) (fun i hi => h i (by omega))
    have b := h n (by omega)
    show 0 ≤ Sm n f + f n
    omega
theorem sm_nn0 {f : Nat → Int} : ∀ {n : Nat}, (∀ i, i < n → 0 ≤ f i) → Sm n f ≤ 0 → ∀ i, i < n → f i = 0
  | 0, _, _, i, hi => absurd hi (Nat.not_lt_zero i)
  | n + 1, h, s, i, hi => by
    have a := sm_nn (n := n) (fun i hi => h i (by omega))
    have b := h n (by omega)
    have s' : Sm n f + f n ≤ 0 := s
    by_cases e : i = n
    · rw [e]; omega
    · exact sm_nn0 (n := n) (fun i hi => h i (by omega)) (by omega) i (by omega)
/-- a wire at a point; the conductances; levels, the last point's being 0 -/
def dl (a b : Nat → Nat) (w i : Nat) : Int := (if i = a w then 1 else 0) - (if i = b w then 1 else 0)
def Lap (a b : Nat → Nat) (W : Nat) (p i : Nat) : Int := Sm W (fun w => dl a b w i * dl a b w p)
def vx (n : Nat) (x : Nat → Int) (p : Nat) : Int := if p < n then x p else 0
theorem sm_at (n : Nat) (x : Nat → Int) (q : Nat) : Sm n (fun p => x p * (if p = q then 1 else 0)) = vx n x q := by
  unfold vx
  by_cases h : q < n
  · rw [if_pos h, sm_one h (fun i hi e => by rw [if_neg e, Int.mul_zero]), if_pos rfl, Int.mul_one]
  · rw [if_neg h]
    exact sm_zero (fun i hi => by rw [if_neg (by omega), Int.mul_zero])
section
variable {a b : Nat → Nat} {W n : Nat}
theorem dl_sum (x : Nat → Int) (w : Nat) : Sm n (fun p => x p * dl a b w p) = vx n x (a w) - vx n x (b w) := by
  rw [← sm_at n x (a w), ← sm_at n x (b w)]
  rw [sm_congr (n := n) (g := fun p => x p * (if p = a w then 1 else 0) + -1 * (x p * (if p = b w then 1 else 0))) (fun p hp => by unfold dl; grind), sm_add, sm_mul]
  omega
theorem lap_mul (x : Nat → Int) (i : Nat) : Sm n (fun p => x p * Lap a b W p i) = Sm W (fun w => dl a b w i * (vx n x (a w) - vx n x (b w))) := by
  rw [sm_congr (n := n) (f := fun p => x p * Lap a b W p i) (g := fun p => Sm W (fun w => x p * (dl a b w i * dl a b w p))) (fun p hp => (sm_mul _ _ _).symm), sm_comm]
  refine sm_congr (fun w hw => ?_)
  rw [← dl_sum, ← sm_mul]
  exact sm_congr (fun p hp => by grind)
theorem lap_quad (x : Nat → Int) : Sm n (fun i => x i * Sm n (fun p => x p * Lap a b W p i)) = Sm W (fun w => (vx n x (a w) - vx n x (b w)) * (vx n x (a w) - vx n x (b w))) := by
  rw [sm_congr (n := n) (g := fun i => Sm W (fun w => x i * (dl a b w i * (vx n x (a w) - vx n x (b w))))) (fun i hi => by rw [lap_mul, sm_mul]), sm_comm]
  refine sm_congr (fun w hw => ?_)
  rw [sm_congr (n := n) (g := fun i => (vx n x (a w) - vx n x (b w)) * (x i * dl a b w i)) (fun i hi => by grind), sm_mul, dl_sum]
/-- levels that no wire parts -/
theorem lap_ker (hd : ¬ dt n (fun i => i) (Lap a b W) = 0) (x : Nat → Int) (h : ∀ w, w < W → vx n x (a w) = vx n x (b w)) {p : Nat} (hp : p < n) : x p = 0 := by
  have z := dt_ker (ρ := fun i => i) (k := n) (Lap a b W) x (fun i hi => by
    rw [lap_mul]
    exact sm_zero (fun w hw => by rw [h w hw, Int.sub_self, Int.mul_zero])) hp
  rcases Int.mul_eq_zero.mp z with q | q
  · exact q
  · exact absurd q hd
/-- the leading minors: none is less than 0; where one is 0, all is -/
theorem lap_pos {k : Nat} (hk : k < n) (hd : 0 < dt k (fun i => i) (Lap a b W)) : 0 ≤ dt (k + 1) (fun i => i) (Lap a b W) ∧ (dt (k + 1) (fun i => i) (Lap a b W) = 0 → dt n (fun i => i) (Lap a b W) = 0) := by
  obtain ⟨e, he⟩ := bm_row (fun i => i) k (Lap a b W) (Lap a b W k)
  have hx : ∃ x : Nat → Int, x k = dt k (fun i => i) (Lap a b W) ∧ (∀ p, p < k → x p = e p) ∧ ∀ p, k < p → x p = 0 :=
    ⟨fun p => if p < k then e p else if p = k then dt k (fun i => i) (Lap a b W) else 0, (if_neg (by omega)).trans (if_pos rfl), fun p hp => if_pos hp, fun p hp => (if_neg (by omega)).trans (if_neg (by omega))⟩
  obtain ⟨x, x1, x2, x3⟩ := hx
  have hm : ∀ i, Sm n (fun p => x p * Lap a b W p i) = bm k (fun i => i) (Lap a b W) i (Lap a b W k) := by
    intro i
    rw [sm_cut (m := k + 1) (by omega) (fun p h1 h2 => by rw [x3 p (by omega), Int.zero_mul]), he i]
    show Sm k (fun p => x p * Lap a b W p i) + x k * Lap a b W k i = _
    rw [x1, sm_congr (n := k) (g := fun p => e p * Lap a b W p i) (fun p hp => by rw [x2 p hp]), Int.add_comm]
  have q := lap_quad (a := a) (b := b) (W := W) (n := n) x
  rw [sm_one (r := k) hk (fun i hi ne => by
    by_cases l : i < k
    · rw [hm, bm_old (ρ := fun i => i) (l := i) l, Int.mul_zero]
    · rw [x3 i (by omega), Int.zero_mul]), hm, x1, bm_d (ρ := fun i => i)] at q
  have nn : ∀ w, w < W → 0 ≤ (vx n x (a w) - vx n x (b w)) * (vx n x (a w) - vx n x (b w)) := fun w _ => by
    rcases Int.le_total 0 (vx n x (a w) - vx n x (b w)) with h | h
    · exact Int.mul_nonneg h h
    · exact Int.mul_nonneg_of_nonpos_of_nonpos h h
  refine ⟨?_, fun z => ?_⟩
  · have s := sm_nn nn
    rw [← q] at s
    refine Classical.byContradiction (fun c => ?_)
    have := Int.mul_neg_of_pos_of_neg hd (show dt (k + 1) (fun i => i) (Lap a b W) < 0 by omega)
    omega
  · rw [z, Int.mul_zero] at q
    refine Classical.byContradiction (fun c => ?_)
    have ze := sm_nn0 nn (by omega)
    have := lap_ker c x (fun w hw => by
      rcases Int.mul_eq_zero.mp (ze w hw) with g | g <;> omega) hk
    omega
/-- levels for a current of d -/
def Sol (a b : Nat → Nat) (W n : Nat) (v : Nat → Int) (d : Int) : Prop := ∀ i, i < n → Sm n (fun p => v p * Lap a b W p i) = if i = 0 then d else 0
theorem sol_uni {v u : Nat → Int} {d : Int} (hd : ¬ dt n (fun i => i) (Lap a b W) = 0) (h : Sol a b W n v d) (g : Sol a b W n u d) {p : Nat} (hp : p < n) : v p = u p := by
  have z := dt_ker (ρ := fun i => i) (k := n) (Lap a b W) (fun p => v p - u p) (fun i hi => by
    show Sm n (fun p => (v p - u p) * Lap a b W p i) = 0
    rw [sm_congr (n := n) (g := fun p => v p * Lap a b W p i + -1 * (u p * Lap a b W p i)) (fun p hp => by grind), sm_add, sm_mul, h i hi, g i hi]
    omega) hp
  rcases Int.mul_eq_zero.mp z with q | q
  · have : v p - u p = 0 := q
    omega
  · exact absurd q hd
theorem sol_cof {m : Nat} (hm : n = m + 1) : Sol a b W n (cof m (fun i => i) (Lap a b W)) (dt n (fun i => i) (Lap a b W)) := by
  intro i hi
  rw [hm]
  by_cases e : i = 0
  · rw [e, if_pos rfl]; exact cof_0 (ρ := fun i => i)
  · rw [if_neg e]; exact cof_l (ρ := fun i => i) (l := i) (by omega) (by omega)
theorem sol_dvd {v : Nat → Int} {g : Int} (hd : ¬ dt n (fun i => i) (Lap a b W) = 0) (h : ∀ w, w < W → g ∣ vx n v (a w) - vx n v (b w)) {p : Nat} (hp : p < n) : g ∣ v p := by
  refine Classical.byContradiction (fun c => ?_)
  have hx : ∃ x : Nat → Int, ∀ q, (g ∣ vx n v q → x q = 0) ∧ (¬ g ∣ vx n v q → x q = 1) := by
    refine ⟨fun q => if vx n v q % g = 0 then 0 else 1, fun q => ⟨fun y => if_pos (Int.emod_eq_zero_of_dvd y), fun y => if_neg (fun z => y (Int.dvd_of_emod_eq_zero z))⟩⟩
  obtain ⟨x, hx⟩ := hx
  have ev : ∀ q, vx n x q = x q := by
    intro q
    by_cases l : q < n
    · exact if_pos l
    · rw [show vx n x q = 0 from if_neg l, (hx q).1 (by rw [show vx n v q = 0 from if_neg l]; exact Int.dvd_zero g)]
  have z := lap_ker hd x (fun w hw => by
    rw [ev, ev]
    by_cases y : g ∣ vx n v (a w)
    · have y2 : g ∣ vx n v (b w) := by
        have := Int.dvd_sub y (h w hw)
        rw [show vx n v (a w) - (vx n v (a w) - vx n v (b w)) = vx n v (b w) by omega] at this
        exact this
      rw [(hx _).1 y, (hx _).1 y2]
    · have y2 : ¬ g ∣ vx n v (b w) := fun t => y (by
        have := Int.dvd_add (h w hw) t
        rw [show vx n v (a w) - vx n v (b w) + vx n v (b w) = vx n v (a w) by omega] at this
        exact this)
      rw [(hx _).2 y, (hx _).2 y2]) hp
  rw [(hx p).2 (by rw [show vx n v p = v p from if_pos hp]; exact c)] at z
  omega
theorem sol_en {v : Nat → Int} {d : Int} (hn : 0 < n) (h : Sol a b W n v d) : Sm W (fun w => (vx n v (a w) - vx n v (b w)) * (vx n v (a w) - vx n v (b w))) = d * v 0 := by
  rw [← lap_quad, sm_one (r := 0) hn (fun i hi e => by rw [h i hi, if_neg e, Int.mul_zero]), h 0 hn, if_pos rfl, Int.mul_comm]
theorem sol_cur {v : Nat → Int} {d : Int} (hn : 0 < n) (h : Sol a b W n v d) : Sm W (fun w => dl a b w 0 * (vx n v (a w) - vx n v (b w))) = d := by
  rw [← lap_mul, h 0 hn, if_pos rfl]
theorem sm_dvd {f : Nat → Int} {g : Int} : ∀ {n : Nat}, (∀ i, i < n → g ∣ f i) → g ∣ Sm n f
  | 0, _ => Int.dvd_zero g
  | n + 1, h => Int.dvd_add (sm_dvd (n := n) (fun i hi => h i (by omega))) (h n (by omega))
theorem min_at (v : Nat → Int) : ∀ n, 0 < n → ∃ p, p < n ∧ ∀ q, q < n → v p ≤ v q
  | 0, h => absurd h (by decide)
  | 1, _ => ⟨0, by decide, fun q hq => by rw [show q = 0 by omega]; exact Int.le_refl _⟩
  | n + 2, _ => by
    obtain ⟨p, hp, h⟩ := min_at v (n + 1) (by omega)
    by_cases c : v p ≤ v (n + 1)
    · refine ⟨p, by omega, fun q hq => ?_⟩
      by_cases e : q = n + 1
      · rw [e]; exact c
      · exact h q (by omega)
    · refine ⟨n + 1, by omega, fun q hq => ?_⟩
      by_cases e : q = n + 1
      · rw [e]; exact Int.le_refl _
      · have := h q (by omega)
        omega
/-- no level is less than 0 -/
theorem sol_nn {v : Nat → Int} {d : Int} (hd : ¬ dt n (fun i => i) (Lap a b W) = 0) (h : Sol a b W n v d) (d0 : 0 ≤ d) {p : Nat} (hp : p < n) : 0 ≤ v p := by
  refine Classical.byContradiction (fun c => ?_)
  obtain ⟨p0, hp0, hm⟩ := min_at v n (by omega)
  have m0 : v p0 < 0 := by have := hm p hp; omega
  have lo : ∀ q, v p0 ≤ vx n v q := by
    intro q
    by_cases l : q < n
    · rw [show vx n v q = v q from if_pos l]; exact hm q l
    · rw [show vx n v q = 0 from if_neg l]; omega
  have hx : ∃ x : Nat → Int, ∀ q, (vx n v q = v p0 → x q = 1) ∧ (¬ vx n v q = v p0 → x q = 0) :=
    ⟨fun q => if vx n v q = v p0 then 1 else 0, fun q => ⟨fun y => if_pos y, fun y => if_neg y⟩⟩
  obtain ⟨x, hx⟩ := hx
  have ev : ∀ q, vx n x q = x q := by
    intro q
    by_cases l : q < n
    · exact if_pos l
    · rw [show vx n x q = 0 from if_neg l, (hx q).2 (by rw [show vx n v q = 0 from if_neg l]; omega)]
  have nb : ∀ i, vx n v i = v p0 → ∀ w, w < W → dl a b w i * (vx n v (a w) - vx n v (b w)) = 0 := by
    intro i hi w hw
    have il : i < n := by
      refine Classical.byContradiction (fun l => ?_)
      rw [show vx n v i = 0 from if_neg l] at hi
      omega
    have s := lap_mul (a := a) (b := b) (W := W) (n := n) v i
    rw [h i il] at s
    have ge : (0 : Int) ≤ if i = 0 then d else 0 := by
      by_cases e : i = 0
      · rw [if_pos e]; exact d0
      · rw [if_neg e]; exact Int.le_refl _
    have neg : ∀ w, w < W → 0 ≤ -1 * (dl a b w i * (vx n v (a w) - vx n v (b w))) := by
      intro w _
      have l1 := lo (a w)
      have l2 := lo (b w)
      unfold dl
      by_cases e1 : i = a w
      · rw [if_pos e1]
        by_cases e2 : i = b w
        · rw [if_pos e2]; omega
        · rw [if_neg e2, ← e1, hi]; omega
      · rw [if_neg e1]
        by_cases e2 : i = b w
        · rw [if_pos e2, ← e2, hi]; omega
        · rw [if_neg e2]; omega
    have := sm_nn0 neg (by rw [sm_mul, ← s]; omega) w hw
    omega
  have z := lap_ker hd x (fun w hw => by
    rw [ev, ev]
    by_cases y : vx n v (a w) = v p0
    · have t := nb (a w) y w hw
      by_cases e : a w = b w
      · rw [e]
      · have y2 : vx n v (b w) = v p0 := by
          unfold dl at t
          rw [if_pos rfl, if_neg e] at t
          omega
        rw [(hx _).1 y, (hx _).1 y2]
    · have y2 : ¬ vx n v (b w) = v p0 := by
        intro y2
        have t := nb (b w) y2 w hw
        by_cases e : b w = a w
        · exact y (by rw [← e]; exact y2)
        · unfold dl at t
          rw [if_neg e, if_pos rfl] at t
          omega
      rw [(hx _).2 y, (hx _).2 y2]) hp0
  rw [(hx p0).1 (if_pos hp0)] at z
  omega
end
