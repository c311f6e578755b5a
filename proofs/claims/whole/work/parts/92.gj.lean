/-- the class's matrix: the right column last; below it, the unit rows with a minus -/
def cxM (L : Nat → Nat → Int) (n p i : Nat) : Int := if i < n then (if p = n then (if i = 0 then 1 else 0) else L p i) else if p + n = i then -1 else 0
def GJ (L : Nat → Nat → Int) (n k i j : Nat) : Int := if j < k then (if i = j then dt k (fun i => i) (cxM L n) else 0) else if i < k then bm k (fun i => i) (cxM L n) (n + i) (cxM L n j) else bm k (fun i => i) (cxM L n) i (cxM L n j)
section
variable {L : Nat → Nat → Int} {n k : Nat}
theorem cx_lo {p i : Nat} (hi : i < n) (hp : p < n) : cxM L n p i = L p i := by
  unfold cxM
  rw [if_pos hi, if_neg (by omega)]
theorem cx_up {p i : Nat} : cxM L n p (n + i) = if p = i then -1 else 0 := by
  unfold cxM
  rw [if_neg (by omega)]
  by_cases e : p = i
  · rw [if_pos (by omega), if_pos e]
  · rw [if_neg (by omega), if_neg e]
theorem gj_0 (i j : Nat) : GJ L n 0 i j = cxM L n j i := by
  unfold GJ
  rw [if_neg (by omega), if_neg (by omega), bm_0]
theorem gj_d (hk : k ≤ n) : dt k (fun i => i) (cxM L n) = dt k (fun i => i) L := dt_congr (fun p hp i hi => cx_lo (by omega) (by omega))
theorem gj_pk : GJ L n k k k = dt (k + 1) (fun i => i) (cxM L n) := by
  unfold GJ
  rw [if_neg (by omega), if_neg (by omega)]
  exact bm_d (ρ := fun i => i)
theorem gj_kj (hd : ¬ dt k (fun i => i) (cxM L n) = 0) (j : Nat) : GJ L n (k + 1) k j = GJ L n k k j := by
  by_cases a : j < k
  · unfold GJ
    rw [if_pos (by omega), if_pos a, if_neg (by omega), if_neg (by omega)]
  · by_cases e : j = k
    · rw [e, gj_pk]
      unfold GJ
      rw [if_pos (by omega), if_pos rfl]
    · have s := bm_step (ρ := fun i => i) (c := cxM L n) (k := k) hd (n + k) (cxM L n j)
      have u : ∀ w : Nat → Int, bm k (fun i => i) (cxM L n) (n + k) w = dt k (fun i => i) (cxM L n) * w (n + k) := by
        intro w
        obtain ⟨e, h⟩ := bm_row (fun i => i) k (cxM L n) w
        rw [h, sm_zero (n := k) (fun p hp => by rw [cx_up, if_neg (by omega), Int.mul_zero]), Int.add_zero]
      rw [u, u, cx_up, cx_up, if_neg e, if_pos rfl] at s
      unfold GJ
      rw [if_neg (by omega), if_pos (by omega), if_neg a, if_neg (by omega)]
      refine Int.eq_of_mul_eq_mul_left hd ?_
      rw [s]
      grind
/-- one step of the class's elimination -/
theorem gj_step (hd : ¬ dt k (fun i => i) (cxM L n) = 0) {i : Nat} (hi : ¬ i = k) (j : Nat) : GJ L n k k k * GJ L n k i j - GJ L n k i k * GJ L n k k j = dt k (fun i => i) (cxM L n) * GJ L n (k + 1) i j := by
  by_cases a : j < k
  · have e1 : GJ L n k k j = 0 := by unfold GJ; rw [if_pos a, if_neg (by omega)]
    rw [e1, gj_pk, Int.mul_zero, Int.sub_zero]
    unfold GJ
    rw [if_pos a, if_pos (show j < k + 1 by omega)]
    by_cases e : i = j
    · rw [if_pos e, if_pos e, Int.mul_comm]
    · rw [if_neg e, if_neg e, Int.mul_zero, Int.mul_zero]
  · by_cases e : j = k
    · have z : GJ L n (k + 1) i k = 0 := by unfold GJ; rw [if_pos (by omega), if_neg hi]
      rw [e, z, Int.mul_zero, Int.mul_comm, Int.sub_self]
    · have rowk : ∀ j, k ≤ j → GJ L n k k j = bm k (fun i => i) (cxM L n) k (cxM L n j) := fun j hj => by unfold GJ; rw [if_neg (by omega), if_neg (by omega)]
      have one : ∀ r, dt (k + 1) (fun i => i) (cxM L n) * bm k (fun i => i) (cxM L n) r (cxM L n j) - bm k (fun i => i) (cxM L n) r (cxM L n k) * bm k (fun i => i) (cxM L n) k (cxM L n j) = dt k (fun i => i) (cxM L n) * bm (k + 1) (fun i => i) (cxM L n) r (cxM L n j) := fun r => (bm_step (ρ := fun i => i) (c := cxM L n) (k := k) hd r (cxM L n j)).symm
      rw [gj_pk, rowk j (by omega)]
      by_cases l : i < k
      · have g : ∀ j, k ≤ j → GJ L n k i j = bm k (fun i => i) (cxM L n) (n + i) (cxM L n j) := fun j hj => by unfold GJ; rw [if_neg (by omega), if_pos l]
        rw [g j (by omega), g k (Nat.le_refl k), one]
        unfold GJ
        rw [if_neg (by omega), if_pos (by omega)]
      · have g : ∀ j, k ≤ j → GJ L n k i j = bm k (fun i => i) (cxM L n) i (cxM L n j) := fun j hj => by unfold GJ; rw [if_neg (by omega), if_neg l]
        rw [g j (by omega), g k (Nat.le_refl k), one]
        unfold GJ
        rw [if_neg (by omega), if_neg (by omega)]
/-- what the right column ends as -/
theorem gj_v : ∀ i, i < n → Sm n (fun p => GJ L n n p n * L p i) = if i = 0 then dt n (fun i => i) L else 0 := by
  obtain ⟨e, h⟩ := bm_row (fun i => i) n (cxM L n) (cxM L n n)
  have v : ∀ p, p < n → GJ L n n p n = - e p := by
    intro p hp
    unfold GJ
    rw [if_neg (by omega), if_pos hp, h, cx_up, if_neg (by omega), Int.mul_zero, Int.zero_add, sm_one (r := p) hp (fun q hq ne => by rw [cx_up, if_neg ne, Int.mul_zero]), cx_up, if_pos rfl]
    omega
  intro i hi
  have z := h i
  rw [bm_old (ρ := fun i => i) (l := i) hi, gj_d (Nat.le_refl n), sm_congr (n := n) (g := fun p => e p * L p i) (fun p hp => by rw [cx_lo hi hp])] at z
  have c : cxM L n n i = if i = 0 then 1 else 0 := by unfold cxM; rw [if_pos hi, if_pos rfl]
  rw [c] at z
  rw [sm_congr (n := n) (g := fun p => -1 * (e p * L p i)) (fun p hp => by rw [v p hp]; grind), sm_mul]
  by_cases q : i = 0
  · rw [if_pos q] at z ⊢; omega
  · rw [if_neg q] at z ⊢; omega
end
theorem smn_pick (f : Nat → Nat) {k j : Nat} (h : k ≤ j) : ∀ {m : Nat}, j < m → SmN k f + f j ≤ SmN m f
  | 0, hj => absurd hj (Nat.not_lt_zero j)
  | m + 1, hj => by
    by_cases e : j = m
    · rw [e]
      refine Nat.add_le_add_right ?_ _
      have : ∀ d, SmN k f ≤ SmN (k + d) f := fun d => by
        induction d with
        | zero => exact Nat.le_refl _
        | succ d ih => exact Nat.le_trans ih (Nat.le_add_right _ _)
      have t := this (m - k)
      rw [show k + (m - k) = m by omega] at t
      exact t
    · exact Nat.le_trans (smn_pick f h (m := m) (by omega)) (Nat.le_add_right _ _)
theorem smn_mono (f : Nat → Nat) {k m : Nat} (h : k ≤ m) : SmN k f ≤ SmN m f := by
  have := smn_pick f h (m := m + 1) (by omega)
  have e : SmN (m + 1) f = SmN m f + f m := rfl
  omega
theorem smn_at (i : Nat) : ∀ m, SmN m (fun p => if p = i then 1 else 0) ≤ 1 ∧ (m ≤ i → SmN m (fun p => if p = i then 1 else 0) = 0)
  | 0 => ⟨Nat.zero_le 1, fun _ => rfl⟩
  | m + 1 => by
    obtain ⟨a, b⟩ := smn_at i m
    have e : SmN (m + 1) (fun p => if p = i then 1 else 0) = SmN m (fun p => if p = i then 1 else 0) + (if m = i then 1 else 0) := rfl
    rw [e]
    by_cases q : m = i
    · rw [if_pos q, b (by omega)]; exact ⟨Nat.le_refl _, fun h => by omega⟩
    · rw [if_neg q]; exact ⟨a, fun h => b (by omega)⟩
/-- minors with one row and column beside: small -/
theorem bm_small {c : Nat → Nat → Int} {ρ : Nat → Nat} {R : Nat → Nat} {k j m r B : Nat} (hk : k ≤ j) (hj : j < m) (h : ∀ i, i < k → SmN m (fun p => (c p (ρ i)).natAbs) ≤ R i) (hr : SmN m (fun p => (c p r).natAbs) ≤ B) (hs : SmN k R + B ≤ 58) : (bm k ρ c r (c j)).natAbs < 2147483648 := by
  unfold bm
  have col : ∀ x, SmN (k + 1) (fun p => (upc c k (c j) p x).natAbs) ≤ SmN m (fun p => (c p x).natAbs) := by
    intro x
    show SmN k (fun p => (upc c k (c j) p x).natAbs) + (upc c k (c j) k x).natAbs ≤ _
    rw [upc_eq, smn_congr (n := k) (g := fun p => (c p x).natAbs) (fun p hp => by rw [upc_ne _ _ (by omega)])]
    exact smn_pick (fun p => (c p x).natAbs) hk hj
  refine dt_small (R := fun q => if q < k then R q else B) (fun i hi => ?_) ?_
  · refine Nat.le_trans (col _) ?_
    by_cases l : i < k
    · rw [if_pos l, upr_ne _ _ (by omega)]; exact h i l
    · rw [if_neg l, show i = k by omega, upr_eq]; exact hr
  · show SmN k (fun q => if q < k then R q else B) + (if k < k then R k else B) ≤ 58
    rw [if_neg (by omega), smn_congr (n := k) (g := R) (fun q hq => by rw [if_pos hq])]
    exact hs
theorem gj_small {L : Nat → Nat → Int} {R : Nat → Nat} {n k i j : Nat} (hk : k ≤ n) (hi : i < n) (hj : j ≤ n) (h : ∀ i, i < n → SmN n (fun p => (L p i).natAbs) + (if i = 0 then 1 else 0) ≤ R i) (hs : SmN n R ≤ 57) : (GJ L n k i j).natAbs < 2147483648 := by
  have row : ∀ i, i < n → SmN (n + 1) (fun p => (cxM L n p i).natAbs) ≤ R i := by
    intro i hi
    refine Nat.le_trans ?_ (h i hi)
    show SmN n (fun p => (cxM L n p i).natAbs) + (cxM L n n i).natAbs ≤ _
    rw [smn_congr (n := n) (g := fun p => (L p i).natAbs) (fun p hp => by rw [cx_lo hi hp])]
    refine Nat.add_le_add_left ?_ _
    unfold cxM
    rw [if_pos hi, if_pos rfl]
    by_cases e : i = 0
    · rw [if_pos e, if_pos e]; exact Nat.le_refl _
    · rw [if_neg e, if_neg e]; exact Nat.le_refl _
  have up : ∀ i, SmN (n + 1) (fun p => (cxM L n p (n + i)).natAbs) ≤ 1 := by
    intro i
    rw [smn_congr (n := n + 1) (g := fun p => if p = i then 1 else 0) (fun p hp => by
      rw [cx_up]
      by_cases e : p = i
      · rw [if_pos e, if_pos e]; rfl
      · rw [if_neg e, if_neg e]; rfl)]
    exact (smn_at i (n + 1)).1
  have mk := smn_mono R hk
  unfold GJ
  by_cases a : j < k
  · rw [if_pos a]
    by_cases e : i = j
    · rw [if_pos e]
      refine dt_small (R := R) (fun i hi => ?_) (by omega)
      exact Nat.le_trans (smn_mono (fun p => (cxM L n p i).natAbs) (show k ≤ n + 1 by omega)) (row i (by omega))
    · rw [if_neg e]; decide
  · rw [if_neg a]
    by_cases l : i < k
    · rw [if_pos l]
      exact bm_small (R := R) (B := 1) (show k ≤ j by omega) (show j < n + 1 by omega) (fun i hi => row i (by omega)) (up i) (by omega)
    · rw [if_neg l]
      have := smn_pick R (show k ≤ i by omega) hi
      exact bm_small (R := R) (B := R i) (show k ≤ j by omega) (show j < n + 1 by omega) (fun i hi => row i (by omega)) (row i hi) (by omega)
section
variable {a b : Nat → Nat} {W n : Nat}
/-- the wires at the points -/
def dgr (a b : Nat → Nat) (W i : Nat) : Nat := SmN W (fun w => (dl a b w i).natAbs)
theorem dl_two (w : Nat) : SmN n (fun p => (dl a b w p).natAbs) ≤ 2 := by
  refine Nat.le_trans (smn_le (g := fun p => (if p = a w then 1 else 0) + (if p = b w then 1 else 0)) (fun p hp => ?_)) ?_
  · unfold dl
    by_cases e1 : p = a w
    · rw [if_pos e1, if_pos e1]
      by_cases e2 : p = b w
      · rw [if_pos e2, if_pos e2]; decide
      · rw [if_neg e2, if_neg e2]; decide
    · rw [if_neg e1, if_neg e1]
      by_cases e2 : p = b w
      · rw [if_pos e2, if_pos e2]; decide
      · rw [if_neg e2, if_neg e2]; decide
  · rw [smn_add]
    have h1 := (smn_at (a w) n).1
    have h2 := (smn_at (b w) n).1
    omega
theorem lap_row (i : Nat) : SmN n (fun p => (Lap a b W p i).natAbs) ≤ dgr a b W i * 2 := by
  refine Nat.le_trans (smn_le (g := fun p => SmN W (fun w => (dl a b w i).natAbs * (dl a b w p).natAbs)) (fun p hp => ?_)) ?_
  · refine Nat.le_trans (sm_abs _ _) (smn_le (fun w hw => ?_))
    rw [Int.natAbs_mul]
    exact Nat.le_refl _
  · rw [smn_comm]
    unfold dgr
    rw [← smn_mul]
    refine smn_le (fun w hw => ?_)
    rw [smn_congr (n := n) (g := fun p => (dl a b w p).natAbs * (dl a b w i).natAbs) (fun p hp => Nat.mul_comm _ _), smn_mul, Nat.mul_comm]
    exact Nat.mul_le_mul_left _ (dl_two w)
theorem dgr_sum : SmN n (fun i => dgr a b W i * 2) ≤ W * 4 := by
  rw [smn_mul]
  unfold dgr
  rw [smn_comm]
  have : SmN W (fun w => SmN n (fun i => (dl a b w i).natAbs)) ≤ SmN W (fun _ => 2) := smn_le (fun w hw => dl_two w)
  have e : ∀ W, SmN W (fun _ => 2) = W * 2 := fun W => by
    induction W with
    | zero => rfl
    | succ W ih => show SmN W (fun _ => 2) + 2 = _; omega
  rw [e] at this
  omega
end
