/-- sums of whole numbers -/
def Sm : Nat → (Nat → Int) → Int
  | 0, _ => 0
  | n + 1, f => Sm n f + f n
theorem sm_congr : ∀ {n : Nat} {f g : Nat → Int}, (∀ i, i < n → f i = g i) → Sm n f = Sm n g
  | 0, _, _, _ => rfl
  | n + 1, f, g, h => by
    show Sm n f + f n = Sm n g + g n
    rw [sm_congr (n := n) (fun i hi => h i (by omega)), h n (by omega)]
theorem sm_add (f g : Nat → Int) : ∀ n, Sm n (fun i => f i + g i) = Sm n f + Sm n g
  | 0 => rfl
  | n + 1 => by
    show Sm n (fun i => f i + g i) + (f n + g n) = (Sm n f + f n) + (Sm n g + g n)
    rw [sm_add f g n]; omega
theorem sm_mul (a : Int) (f : Nat → Int) : ∀ n, Sm n (fun i => a * f i) = a * Sm n f
  | 0 => (Int.mul_zero a).symm
  | n + 1 => by
    show Sm n (fun i => a * f i) + a * f n = a * (Sm n f + f n)
    rw [sm_mul a f n, Int.mul_add]
theorem sm_zero : ∀ {n : Nat} {f : Nat → Int}, (∀ i, i < n → f i = 0) → Sm n f = 0
  | 0, _, _ => rfl
  | n + 1, f, h => by
    show Sm n f + f n = 0
    rw [sm_zero (n := n) (fun i hi => h i (by omega)), h n (by omega)]; rfl
theorem sm_one {f : Nat → Int} {r : Nat} : ∀ {n : Nat}, r < n → (∀ i, i < n → ¬ i = r → f i = 0) → Sm n f = f r
  | 0, h, _ => absurd h (Nat.not_lt_zero r)
  | n + 1, h, z => by
    show Sm n f + f n = f r
    by_cases e : r = n
    · rw [sm_zero (n := n) (fun i hi => z i (by omega) (by omega)), e]; omega
    · rw [sm_one (n := n) (by omega) (fun i hi hn => z i (by omega) hn), z n (by omega) (by omega)]; omega
/-- two places beside each other, one for the other -/
def swa (r i : Nat) : Nat := if i = r then r + 1 else if i = r + 1 then r else i
theorem swa_r (r : Nat) : swa r r = r + 1 := if_pos rfl
theorem swa_r1 (r : Nat) : swa r (r + 1) = r := by unfold swa; rw [if_neg (by omega), if_pos rfl]
theorem swa_ne {r i : Nat} (h : ¬ i = r) (g : ¬ i = r + 1) : swa r i = i := by unfold swa; rw [if_neg h, if_neg g]
theorem sm_swa (f : Nat → Int) (r : Nat) : ∀ n, r + 1 < n → Sm n (fun i => f (swa r i)) = Sm n f
  | 0, h => absurd h (Nat.not_lt_zero _)
  | 1, h => by omega
  | n + 2, h => by
    show Sm (n + 1) (fun i => f (swa r i)) + f (swa r (n + 1)) = Sm (n + 1) f + f (n + 1)
    by_cases e : r + 1 = n + 1
    · have e' : r = n := by omega
      show Sm n (fun i => f (swa r i)) + f (swa r n) + f (swa r (n + 1)) = Sm n f + f n + f (n + 1)
      rw [sm_congr (n := n) (f := fun i => f (swa r i)) (g := f) (fun i hi => by rw [swa_ne (by omega) (by omega)]), ← e', swa_r, swa_r1]; omega
    · rw [sm_swa f r (n + 1) (by omega), swa_ne (by omega) (by omega)]
theorem sm_dbl (F : Nat → Nat → Int) : ∀ n, Sm (n + 1) (fun p => Sm n (fun q => F p q)) = Sm (n + 1) (fun b => Sm b (fun a => F b a + F a (b - 1)))
  | 0 => rfl
  | n + 1 => by
    have e1 : Sm (n + 2) (fun p => Sm (n + 1) (fun q => F p q)) = Sm (n + 1) (fun p => Sm n (fun q => F p q)) + Sm (n + 1) (fun p => F p n) + Sm (n + 1) (fun q => F (n + 1) q) := by
      show Sm (n + 1) (fun p => Sm n (fun q => F p q) + F p n) + Sm (n + 1) (fun q => F (n + 1) q) = _
      rw [sm_add]
    have e2 : Sm (n + 2) (fun b => Sm b (fun a => F b a + F a (b - 1))) = Sm (n + 1) (fun b => Sm b (fun a => F b a + F a (b - 1))) + Sm (n + 1) (fun a => F (n + 1) a + F a n) := rfl
    rw [e1, e2, sm_dbl F n, sm_add (fun a => F (n + 1) a) (fun a => F a n)]; omega
/-- signs -/
def sgn (p : Nat) : Int := if p % 2 = 0 then 1 else -1
theorem sgn_s (p : Nat) : sgn (p + 1) = - sgn p := by
  unfold sgn
  by_cases h : p % 2 = 0
  · rw [if_pos h, if_neg (by omega)]
  · rw [if_neg h, if_pos (by omega)]; rfl
theorem sgn_2 (p : Nat) : sgn (p + p) = 1 := by unfold sgn; rw [if_pos (by omega)]
theorem sgn_add (p : Nat) : ∀ q, sgn (p + q) = sgn p * sgn q
  | 0 => by rw [show sgn 0 = 1 from rfl, Int.mul_one]; rfl
  | q + 1 => by rw [show p + (q + 1) = (p + q) + 1 from rfl, sgn_s, sgn_s, sgn_add p q, Int.mul_neg]
theorem sgn_sq (p : Nat) : sgn p * sgn p = 1 := by rw [← sgn_add, sgn_2]
/-- columns, one left out; one put in another's place -/
def skp (p : Nat) (c : Nat → Nat → Int) : Nat → Nat → Int := fun q => if q < p then c q else c (q + 1)
def upc (c : Nat → Nat → Int) (r : Nat) (w : Nat → Int) : Nat → Nat → Int := fun q => if q = r then w else c q
def upr (ρ : Nat → Nat) (r i : Nat) : Nat → Nat := fun q => if q = r then i else ρ q
theorem skp_lt {p q : Nat} (c : Nat → Nat → Int) (h : q < p) : skp p c q = c q := if_pos h
theorem skp_ge {p q : Nat} (c : Nat → Nat → Int) (h : p ≤ q) : skp p c q = c (q + 1) := if_neg (by omega)
theorem upc_eq (c : Nat → Nat → Int) (r : Nat) (w : Nat → Int) : upc c r w r = w := if_pos rfl
theorem upc_ne {q r : Nat} (c : Nat → Nat → Int) (w : Nat → Int) (h : ¬ q = r) : upc c r w q = c q := if_neg h
theorem upr_eq (ρ : Nat → Nat) (r i : Nat) : upr ρ r i r = i := if_pos rfl
theorem upr_ne {q r : Nat} (ρ : Nat → Nat) (i : Nat) (h : ¬ q = r) : upr ρ r i q = ρ q := if_neg h
theorem skp_upc (c : Nat → Nat → Int) (r : Nat) (w : Nat → Int) : skp r (upc c r w) = skp r c := by
  funext q
  by_cases h : q < r
  · rw [skp_lt _ h, skp_lt _ h, upc_ne _ _ (by omega)]
  · rw [skp_ge _ (by omega), skp_ge _ (by omega), upc_ne _ _ (by omega)]
theorem skp_upc_lt {p r : Nat} (c : Nat → Nat → Int) (w : Nat → Int) (h : p < r) : skp p (upc c r w) = upc (skp p c) (r - 1) w := by
  funext q
  by_cases e : q = r - 1
  · rw [e, upc_eq, skp_ge _ (by omega), show r - 1 + 1 = r by omega, upc_eq]
  · rw [upc_ne _ _ e]
    by_cases g : q < p
    · rw [skp_lt _ g, skp_lt _ g, upc_ne _ _ (by omega)]
    · rw [skp_ge _ (by omega), skp_ge _ (by omega), upc_ne _ _ (by omega)]
theorem skp_upc_gt {p r : Nat} (c : Nat → Nat → Int) (w : Nat → Int) (h : r < p) : skp p (upc c r w) = upc (skp p c) r w := by
  funext q
  by_cases e : q = r
  · rw [e, upc_eq, skp_lt _ h, upc_eq]
  · rw [upc_ne _ _ e]
    by_cases g : q < p
    · rw [skp_lt _ g, skp_lt _ g, upc_ne _ _ e]
    · rw [skp_ge _ (by omega), skp_ge _ (by omega), upc_ne _ _ (by omega)]
/-- determinants: k rows and the first k columns, by the last row -/
def dt : Nat → (Nat → Nat) → (Nat → Nat → Int) → Int
  | 0, _, _ => 1
  | k + 1, ρ, c => Sm (k + 1) (fun p => sgn (k + p) * c p (ρ k) * dt k ρ (skp p c))
theorem dt_congr : ∀ {k : Nat} {ρ ρ' : Nat → Nat} {c c' : Nat → Nat → Int}, (∀ p, p < k → ∀ i, i < k → c p (ρ i) = c' p (ρ' i)) → dt k ρ c = dt k ρ' c'
  | 0, _, _, _, _, _ => rfl
  | k + 1, ρ, ρ', c, c', h => by
    refine sm_congr (fun p hp => ?_)
    show sgn (k + p) * c p (ρ k) * dt k ρ (skp p c) = sgn (k + p) * c' p (ρ' k) * dt k ρ' (skp p c')
    rw [h p hp k (by omega), dt_congr (k := k) (ρ := ρ) (ρ' := ρ') (c := skp p c) (c' := skp p c') (fun q hq i hi => ?_)]
    by_cases g : q < p
    · rw [skp_lt _ g, skp_lt _ g]; exact h q (by omega) i (by omega)
    · rw [skp_ge _ (by omega), skp_ge _ (by omega)]; exact h (q + 1) (by omega) i (by omega)
theorem dt_lin {ρ : Nat → Nat} (a b : Int) (u v : Nat → Int) : ∀ {k : Nat} (c : Nat → Nat → Int) (r : Nat), r < k → dt k ρ (upc c r (fun i => a * u i + b * v i)) = a * dt k ρ (upc c r u) + b * dt k ρ (upc c r v)
  | 0, _, r, h => absurd h (Nat.not_lt_zero r)
  | k + 1, c, r, h => by
    show Sm (k + 1) (fun p => sgn (k + p) * upc c r (fun i => a * u i + b * v i) p (ρ k) * dt k ρ (skp p (upc c r (fun i => a * u i + b * v i)))) = a * Sm (k + 1) (fun p => sgn (k + p) * upc c r u p (ρ k) * dt k ρ (skp p (upc c r u))) + b * Sm (k + 1) (fun p => sgn (k + p) * upc c r v p (ρ k) * dt k ρ (skp p (upc c r v)))
    rw [← sm_mul, ← sm_mul, ← sm_add]
    refine sm_congr (fun p hp => ?_)
    show sgn (k + p) * upc c r (fun i => a * u i + b * v i) p (ρ k) * dt k ρ (skp p (upc c r (fun i => a * u i + b * v i))) = a * (sgn (k + p) * upc c r u p (ρ k) * dt k ρ (skp p (upc c r u))) + b * (sgn (k + p) * upc c r v p (ρ k) * dt k ρ (skp p (upc c r v)))
    by_cases e : p = r
    · rw [e, upc_eq, upc_eq, upc_eq, skp_upc, skp_upc, skp_upc]; grind
    · rw [upc_ne _ _ e, upc_ne _ _ e, upc_ne _ _ e]
      by_cases g : p < r
      · rw [skp_upc_lt _ _ g, skp_upc_lt _ _ g, skp_upc_lt _ _ g, dt_lin a b u v (k := k) (skp p c) (r - 1) (by omega)]; grind
      · rw [skp_upc_gt _ _ (by omega), skp_upc_gt _ _ (by omega), skp_upc_gt _ _ (by omega), dt_lin a b u v (k := k) (skp p c) r (by omega)]; grind
theorem upc_self (c : Nat → Nat → Int) (r : Nat) : upc c r (c r) = c := by
  funext q
  by_cases e : q = r
  · rw [e, upc_eq]
  · rw [upc_ne _ _ e]
/-- a column of zeros -/
theorem dt_zc {k : Nat} {ρ : Nat → Nat} {c : Nat → Nat → Int} {r : Nat} (h : r < k) (z : ∀ i, i < k → c r (ρ i) = 0) : dt k ρ c = 0 := by
  have e := dt_lin (ρ := ρ) 0 0 (c r) (c r) c r h
  rw [Int.zero_mul] at e
  rw [← show (0 : Int) + 0 = 0 from rfl, ← e]
  refine dt_congr (fun p hp i hi => ?_)
  by_cases g : p = r
  · rw [g, upc_eq, z i hi]
    rfl
  · rw [upc_ne _ _ g]
theorem skp_swa_r (r : Nat) (c : Nat → Nat → Int) : skp r (fun q => c (swa r q)) = skp (r + 1) c := by
  funext q
  by_cases h : q < r
  · rw [skp_lt _ h, skp_lt _ (by omega), swa_ne (by omega) (by omega)]
  · rw [skp_ge _ (by omega)]
    by_cases e : q = r
    · rw [e, swa_r1, skp_lt _ (by omega)]
    · rw [skp_ge _ (by omega), swa_ne (by omega) (by omega)]
theorem skp_swa_r1 (r : Nat) (c : Nat → Nat → Int) : skp (r + 1) (fun q => c (swa r q)) = skp r c := by
  funext q
  by_cases h : q < r
  · rw [skp_lt _ (by omega), skp_lt _ h, swa_ne (by omega) (by omega)]
  · rw [skp_ge (p := r) _ (by omega)]
    by_cases e : q = r
    · rw [e, skp_lt _ (by omega), swa_r]
    · rw [skp_ge _ (by omega), swa_ne (by omega) (by omega)]
theorem skp_swa_lt {p r : Nat} (h : p < r) (c : Nat → Nat → Int) : skp p (fun q => c (swa r q)) = fun q => skp p c (swa (r - 1) q) := by
  funext q
  by_cases g : q < p
  · rw [skp_lt _ g, swa_ne (by omega) (by omega), swa_ne (by omega) (by omega), skp_lt _ g]
  · rw [skp_ge _ (by omega)]
    by_cases e : q = r - 1
    · rw [e, swa_r, skp_ge _ (by omega), show r - 1 + 1 = r by omega, swa_r]
    · by_cases e2 : q = r
      · rw [e2, swa_r1, show swa (r - 1) r = r - 1 by
          have := swa_r1 (r - 1)
          rw [show r - 1 + 1 = r by omega] at this
          exact this, skp_ge _ (by omega), show r - 1 + 1 = r by omega]
      · rw [swa_ne (by omega) (by omega), swa_ne (by omega) (by omega), skp_ge _ (by omega)]
theorem skp_swa_gt {p r : Nat} (h : r + 1 < p) (c : Nat → Nat → Int) : skp p (fun q => c (swa r q)) = fun q => skp p c (swa r q) := by
  funext q
  by_cases e : q = r
  · rw [e, skp_lt _ (by omega), swa_r, skp_lt _ (by omega)]
  · by_cases e2 : q = r + 1
    · rw [e2, skp_lt _ (by omega), swa_r1, skp_lt _ (by omega)]
    · rw [swa_ne e e2]
      by_cases g : q < p
      · rw [skp_lt _ g, skp_lt _ g, swa_ne e e2]
      · rw [skp_ge _ (by omega), skp_ge _ (by omega), swa_ne (by omega) (by omega)]
/-- two columns beside each other, one for the other -/
theorem dt_swc {ρ : Nat → Nat} : ∀ {k : Nat} (c : Nat → Nat → Int) (r : Nat), r + 1 < k → dt k ρ (fun q => c (swa r q)) = - dt k ρ c
  | 0, _, r, h => absurd h (Nat.not_lt_zero _)
  | k + 1, c, r, h => by
    have e : - dt (k + 1) ρ c = Sm (k + 1) (fun p => - 1 * (sgn (k + swa r p) * c (swa r p) (ρ k) * dt k ρ (skp (swa r p) c))) := by
      rw [sm_swa (fun p => - 1 * (sgn (k + p) * c p (ρ k) * dt k ρ (skp p c))) r (k + 1) h, sm_mul]
      show - dt (k + 1) ρ c = -1 * dt (k + 1) ρ c
      omega
    rw [e]
    refine sm_congr (fun p hp => ?_)
    show sgn (k + p) * c (swa r p) (ρ k) * dt k ρ (skp p (fun q => c (swa r q))) = - 1 * (sgn (k + swa r p) * c (swa r p) (ρ k) * dt k ρ (skp (swa r p) c))
    by_cases e1 : p = r
    · rw [e1, swa_r, skp_swa_r, show k + (r + 1) = (k + r) + 1 from rfl, sgn_s]; grind
    · by_cases e2 : p = r + 1
      · rw [e2, swa_r1, skp_swa_r1, show k + (r + 1) = (k + r) + 1 from rfl, sgn_s]; grind
      · rw [swa_ne e1 e2]
        by_cases g : p < r
        · rw [skp_swa_lt g, dt_swc (skp p c) (r - 1) (by omega)]; grind
        · rw [skp_swa_gt (by omega), dt_swc (skp p c) r (by omega)]; grind
theorem dt_eqc {ρ : Nat → Nat} {k : Nat} : ∀ (d : Nat) (c : Nat → Nat → Int) (r : Nat), r + d + 1 < k → c r = c (r + d + 1) → dt k ρ c = 0
  | 0, c, r, h, e => by
    have s := dt_swc (ρ := ρ) c r h
    have : (fun q => c (swa r q)) = c := by
      funext q
      by_cases e1 : q = r
      · rw [e1, swa_r]; exact e.symm
      · by_cases e2 : q = r + 1
        · rw [e2, swa_r1]; exact e
        · rw [swa_ne e1 e2]
    rw [this] at s
    omega
  | d + 1, c, r, h, e => by
    have s := dt_swc (ρ := ρ) c (r + d + 1) (by omega)
    have z := dt_eqc (ρ := ρ) (k := k) d (fun q => c (swa (r + d + 1) q)) r (by omega) (by
      show c (swa (r + d + 1) r) = c (swa (r + d + 1) (r + d + 1))
      rw [swa_ne (by omega) (by omega), swa_r]
      exact e)
    omega
theorem dt_same {ρ : Nat → Nat} {k r s : Nat} (c : Nat → Nat → Int) (hr : r < k) (hs : s < k) (h : ¬ r = s) : dt k ρ (upc c r (c s)) = 0 := by
  by_cases g : r < s
  · refine dt_eqc (s - r - 1) _ r (by omega) ?_
    rw [show r + (s - r - 1) + 1 = s by omega, upc_eq, upc_ne _ _ (by omega)]
  · refine dt_eqc (r - s - 1) _ s (by omega) ?_
    rw [show s + (r - s - 1) + 1 = r by omega, upc_eq, upc_ne _ _ (by omega)]
