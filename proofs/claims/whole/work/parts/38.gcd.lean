theorem euc {a b : Nat} (h0 : 0 < a % b) (hb : 0 < b) : 2 * (b % (a % b)) < b := by
  have h1 : a % b < b := Nat.mod_lt a hb
  have h2 : b % (a % b) < a % b := Nat.mod_lt b h0
  have h3 := Nat.div_add_mod b (a % b)
  have h4 : 1 ≤ b / (a % b) := (Nat.one_le_div_iff h0).mpr (Nat.le_of_lt h1)
  have h5 : a % b * 1 ≤ a % b * (b / (a % b)) := Nat.mul_le_mul_left _ h4
  omega
theorem gd_loop {N : Nat} {M : am_Mem} : ∀ e a b step fuel, b < 2 ^ e → e ≤ 31 → a < 2 ^ 31 → step + 2 * e + 1 ≤ 100 → 2 * e + 2 ≤ fuel → fn11_greatestDivisor_b15 N fuel (nI a) (nI b) (nI step) M = some (nI (Nat.gcd a b), M) := by
  intro e
  have one : ∀ a step fuel, step < 100 → 1 ≤ fuel → fn11_greatestDivisor_b15 N fuel (nI a) (nI 0) (nI step) M = some (nI a, M) := by
    intro a step fuel hs hf
    obtain ⟨g, rfl⟩ : ∃ g, fuel = g + 1 := ⟨fuel - 1, by omega⟩
    show fn11_greatestDivisor_b15B N (fn11_greatestDivisor_b15 N g) (nI a) (nI 0) (nI step) M = _
    unfold fn11_greatestDivisor_b15B fn11_greatestDivisor_b42
    rw [if_neg (show ¬ (100 : Int32) ≤ nI step from nI_ge (b := 100) hs (by decide)), if_pos nI_0]
  have stp : ∀ a b step fuel, 0 < b → b < 2 ^ 31 → a < 2 ^ 31 → step < 100 → fn11_greatestDivisor_b15 N (fuel + 1) (nI a) (nI b) (nI step) M = fn11_greatestDivisor_b15 N fuel (nI b) (nI (a % b)) (nI (step + 1)) M := by
    intro a b step fuel h0 hb ha hs
    show fn11_greatestDivisor_b15B N (fn11_greatestDivisor_b15 N fuel) (nI a) (nI b) (nI step) M = _
    have hz : ¬ nI b = 0 := nI_ne0 h0 hb
    unfold fn11_greatestDivisor_b15B fn11_greatestDivisor_b31
    rw [if_neg (show ¬ (100 : Int32) ≤ nI step from nI_ge (b := 100) hs (by decide)), if_neg hz, decide_eq_true hz, nk_ck, pk_rem ha h0 hb, nI_1]
  induction e with
  | zero =>
    intro a b step fuel hb _ ha hs hf
    have : b = 0 := by omega
    subst this
    rw [Nat.gcd_zero_right]
    exact one a step fuel (by omega) (by omega)
  | succ e ih =>
    intro a b step fuel hb he ha hs hf
    have hp : 2 ^ (e + 1) ≤ 2 ^ 31 := Nat.pow_le_pow_right (by decide) he
    by_cases b0 : b = 0
    · subst b0
      rw [Nat.gcd_zero_right]
      exact one a step fuel (by omega) (by omega)
    · obtain ⟨g, rfl⟩ : ∃ g, fuel = g + 1 + 1 := ⟨fuel - 2, by omega⟩
      rw [stp a b step (g + 1) (by omega) (by omega) ha (by omega)]
      have m1 : a % b < b := Nat.mod_lt a (by omega)
      have eg : Nat.gcd a b = Nat.gcd b (a % b) := by rw [Nat.gcd_comm a b, Nat.gcd_rec b a, Nat.gcd_comm]
      rw [eg]
      by_cases r0 : a % b = 0
      · rw [r0, Nat.gcd_zero_right]
        exact one b (step + 1) (g + 1) (by omega) (by omega)
      · rw [stp b (a % b) (step + 1) g (by omega) (by omega) (by omega) (by omega)]
        have eg2 : Nat.gcd b (a % b) = Nat.gcd (a % b) (b % (a % b)) := by rw [Nat.gcd_comm b (a % b), Nat.gcd_rec (a % b) b, Nat.gcd_comm]
        rw [eg2]
        have h2 := euc (a := a) (b := b) (by omega) (by omega)
        rw [Nat.pow_succ] at hb
        exact ih (a % b) (b % (a % b)) (step + 1 + 1) g (by omega) (by omega) (by omega) (by omega) (by omega)
theorem gd_ok {N : Nat} (hN : 100000 ≤ N) (M : am_Mem) {a b : Nat} (ha : a < 2 ^ 31) (hb : b < 2 ^ 31) : fn11_greatestDivisor N M (nI a) (nI b) = some (nI (Nat.gcd a b), M) := by
  unfold fn11_greatestDivisor fn11_greatestDivisor_b0
  rcases Nat.lt_trichotomy a b with h | h | h
  · rw [if_pos (nI_lt h hb), if_neg (nI_nlt (by omega) hb), Nat.gcd_comm]
    exact gd_loop 31 b a 0 N ha (by omega) hb (by omega) (by omega)
  · subst h
    rw [if_neg (nI_nlt (Nat.le_refl _) ha)]
    exact gd_loop 31 a a 0 N ha (by omega) ha (by omega) (by omega)
  · rw [if_neg (nI_nlt (by omega) ha), if_pos (nI_lt h ha)]
    exact gd_loop 31 a b 0 N hb (by omega) ha (by omega) (by omega)
theorem cm_loop {N : Nat} {M : am_Mem} : ∀ e a b fuel, b < 2 ^ e → e ≤ 63 → a < 2 ^ 63 → 2 * e + 2 ≤ fuel → fn12_common_b28 N fuel (lN a) (lN b) M = some (lN (Nat.gcd a b), M) := by
  intro e
  have one : ∀ a fuel, 1 ≤ fuel → fn12_common_b28 N fuel (lN a) (lN 0) M = some (lN a, M) := by
    intro a fuel hf
    obtain ⟨g, rfl⟩ : ∃ g, fuel = g + 1 := ⟨fuel - 1, by omega⟩
    show fn12_common_b28B N (fn12_common_b28 N g) (lN a) (lN 0) M = _
    unfold fn12_common_b28B
    rw [if_pos (show lg_cmp (lN 0) 0 = 0 from (lg_cmp_eq _ _).mpr rfl)]
  have stp : ∀ a b fuel, 0 < b → b < 2 ^ 63 → a < 2 ^ 63 → fn12_common_b28 N (fuel + 1) (lN a) (lN b) M = fn12_common_b28 N fuel (lN b) (lN (a % b)) M := by
    intro a b fuel h0 hb ha
    show fn12_common_b28B N (fn12_common_b28 N fuel) (lN a) (lN b) M = _
    have hz : ¬ lN b = 0 := fun e => by
      have := (pk_lEQ (a := b) (b := 0) hb (by decide)).mp e
      omega
    unfold fn12_common_b28B fn12_common_b42
    rw [if_neg (by rw [lg_cmp_eq]; exact hz), decide_eq_true hz, nk_ck, pk_lRem ha h0 hb]
  induction e with
  | zero =>
    intro a b fuel hb _ ha hf
    have : b = 0 := by omega
    subst this
    rw [Nat.gcd_zero_right]
    exact one a fuel (by omega)
  | succ e ih =>
    intro a b fuel hb he ha hf
    have hp : 2 ^ (e + 1) ≤ 2 ^ 63 := Nat.pow_le_pow_right (by decide) he
    by_cases b0 : b = 0
    · subst b0
      rw [Nat.gcd_zero_right]
      exact one a fuel (by omega)
    · obtain ⟨g, rfl⟩ : ∃ g, fuel = g + 1 + 1 := ⟨fuel - 2, by omega⟩
      rw [stp a b (g + 1) (by omega) (by omega) ha]
      have m1 : a % b < b := Nat.mod_lt a (by omega)
      have eg : Nat.gcd a b = Nat.gcd b (a % b) := by rw [Nat.gcd_comm a b, Nat.gcd_rec b a, Nat.gcd_comm]
      rw [eg]
      by_cases r0 : a % b = 0
      · rw [r0, Nat.gcd_zero_right]
        exact one b (g + 1) (by omega)
      · rw [stp b (a % b) g (by omega) (by omega) (by omega)]
        have eg2 : Nat.gcd b (a % b) = Nat.gcd (a % b) (b % (a % b)) := by rw [Nat.gcd_comm b (a % b), Nat.gcd_rec (a % b) b, Nat.gcd_comm]
        rw [eg2]
        have h2 := euc (a := a) (b := b) (by omega) (by omega)
        rw [Nat.pow_succ] at hb
        exact ih (a % b) (b % (a % b)) g (by omega) (by omega) (by omega) (by omega)
theorem lN_abs {x : Int64} (h : -9223372036854775808 < x.toInt) : (if 0 ≤ x then x else -x) = lN x.toInt.natAbs := by
  have h2 := Int64.toInt_lt x
  apply Int64.toInt_inj.mp
  rw [pk_lT (by omega)]
  by_cases h0 : 0 ≤ x
  · rw [if_pos h0]
    rw [Int64.le_iff_toInt_le] at h0
    have : (0 : Int64).toInt = 0 := rfl
    omega
  · rw [if_neg h0]
    rw [Int64.le_iff_toInt_le] at h0
    have : (0 : Int64).toInt = 0 := rfl
    rw [Int64.toInt_neg, Int.bmod_def]
    omega
theorem cm_ok {N : Nat} (hN : 100000 ≤ N) (M : am_Mem) {x y : Int64} (hx : -9223372036854775808 < x.toInt) (hy : -9223372036854775808 < y.toInt) : fn12_common N M x y = some (lN (Nat.gcd x.toInt.natAbs y.toInt.natAbs), M) := by
  have h1 := Int64.toInt_lt x
  have h2 := Int64.toInt_lt y
  have hl := cm_loop (N := N) (M := M) 63 x.toInt.natAbs y.toInt.natAbs N (by omega) (by omega) (by omega) (by omega)
  rw [← lN_abs hx, ← lN_abs hy] at hl
  unfold fn12_common fn12_common_b0 fn12_common_b12 fn12_common_b26
  simp only [lg_cmp_ge]
  by_cases a : 0 ≤ x
  · rw [if_pos a] at hl ⊢
    by_cases b : 0 ≤ y
    · rw [if_pos b] at hl ⊢; exact hl
    · rw [if_neg b] at hl ⊢; exact hl
  · rw [if_neg a] at hl ⊢
    by_cases b : 0 ≤ y
    · rw [if_pos b] at hl ⊢; exact hl
    · rw [if_neg b] at hl ⊢; exact hl
theorem cm_nI {N : Nat} (hN : 100000 ≤ N) (M : am_Mem) {a b : Nat} (ha : a < 2 ^ 31) (hb : b < 2 ^ 31) : fn12_common N M (lN a) (nI b).toInt64 = some (lN (Nat.gcd a b), M) := by
  have e1 : (lN a).toInt = (a : Int) := pk_lT (by omega)
  have e2 : ((nI b).toInt64).toInt = (b : Int) := by rw [Int32.toInt_toInt64, nI_toInt hb]
  have := cm_ok hN M (x := lN a) (y := (nI b).toInt64) (by omega) (by omega)
  rw [e1, e2] at this
  exact this
/-- what divides them all -/
def gdN (f : Nat → Nat) : Nat → Nat
  | 0 => 0
  | j + 1 => Nat.gcd (gdN f j) (f j)
theorem gdN_dvd (f : Nat → Nat) : ∀ n k, k < n → gdN f n ∣ f k
  | 0, k, h => absurd h (Nat.not_lt_zero k)
  | n + 1, k, h => by
    unfold gdN
    by_cases e : k = n
    · subst e; exact Nat.gcd_dvd_right _ _
    · exact Nat.dvd_trans (Nat.gcd_dvd_left _ _) (gdN_dvd f n k (by omega))
theorem gdN_lt {f : Nat → Nat} {b : Nat} (hb : 0 < b) (h : ∀ k, f k < b) : ∀ n, gdN f n < b
  | 0 => hb
  | n + 1 => by
    unfold gdN
    by_cases e : gdN f n = 0
    · rw [e, Nat.gcd_zero_left]; exact h n
    · exact Nat.lt_of_le_of_lt (Nat.gcd_le_left _ (by omega)) (gdN_lt hb h n)
theorem gdN_great (f : Nat → Nat) (d : Nat) : ∀ n, (∀ k, k < n → d ∣ f k) → d ∣ gdN f n
  | 0, _ => Nat.dvd_zero d
  | n + 1, h => Nat.dvd_gcd (gdN_great f d n (fun k hk => h k (by omega))) (h n (by omega))
def szN (L : List Sq) (k : Nat) : Nat := (qS L k).toInt.toNat
theorem szN_lt (L : List Sq) (k : Nat) : szN L k < 2 ^ 31 := by
  have := Int32.toInt_lt (qS L k)
  unfold szN
  omega
theorem szN_eq {w h : Int} {L : List Sq} (g : Geo w h L) {k : Nat} (hk : k < L.length) : qS L k = nI (szN L k) ∧ 1 ≤ szN L k := by
  have hm : L[k] ∈ L := List.getElem_mem hk
  have := g.2.2.2.2.1 _ hm
  unfold sqIn at this
  have e : qS L k = (L[k]).2.2 := by unfold qS; rw [q_getD hk]
  unfold szN
  rw [e]
  exact ⟨nk_ex (by omega), by omega⟩
/-- the greatest number that divides all sizes -/
def gcL (L : List Sq) : Nat := gdN (szN L) L.length
theorem gcL_lt (L : List Sq) : gcL L < 2 ^ 31 := gdN_lt (by decide) (szN_lt L) _
theorem gcL_pos {w h : Int} {L : List Sq} (g : Geo w h L) : 1 ≤ gcL L := by
  have h1 := g.1
  have h2 := gdN_dvd (szN L) L.length 0 (by omega)
  have h3 := (szN_eq g (k := 0) (by omega)).2
  have : gcL L ≠ 0 := fun e => by
    unfold gcL at e
    rw [e] at h2
    have := Nat.eq_zero_of_zero_dvd h2
    omega
  omega
theorem gc_c {N : Nat} (hN : 100000 ≤ N) {M : am_Mem} {t : Nat} {q : Rc} {w h : Int} (tq : TilR M t q) (g : Geo w h q.2.2.2) : ∀ k j fuel, j + k = q.2.2.2.length → k < fuel → fn10_commonDivisor_b4 N fuel t (nI (gdN (szN q.2.2.2) j)) (nI j) M = some (nI (gcL q.2.2.2), M) := by
  have hl := g.2.1
  obtain ⟨tK, ⟨tf, t4, t5, t6⟩, ⟨_, _, k7, l7⟩, ⟨_, _, k8, l8⟩, ⟨_, _, k9, l9⟩, x7, x8, x9⟩ := tq
  intro k
  induction k with
  | zero =>
    intro j fuel hj hf
    obtain ⟨f, rfl⟩ : ∃ f, fuel = f + 1 := ⟨fuel - 1, by omega⟩
    have : j = q.2.2.2.length := by omega
    show fn10_commonDivisor_b4B N (fn10_commonDivisor_b4 N f) t _ (nI j) M = _
    unfold fn10_commonDivisor_b4B gcL
    rw [nk_k, tK.2.2, nk_dd, t4, if_pos (nI_le (by omega) (by omega)), this]
  | succ k ih =>
    intro j fuel hj hf
    obtain ⟨f, rfl⟩ : ∃ f, fuel = f + 1 := ⟨fuel - 1, by omega⟩
    have hj' : j < q.2.2.2.length := by omega
    have g1 := ih (j + 1) f (by omega) (by omega)
    rw [gdN] at g1
    show fn10_commonDivisor_b4B N (fn10_commonDivisor_b4 N f) t _ (nI j) M = _
    unfold fn10_commonDivisor_b4B
    rw [nk_k, tK.2.2, nk_dd, t4, if_neg (nI_ge (by omega) (by omega)), nk_k, k9, nk_dd, l9, nk_in hj' (by omega), nk_ck, nI_clamp (by omega), x9 j hj', (szN_eq g hj').1, gd_ok hN M (gdN_lt (by decide) (szN_lt _) j) (szN_lt _ j), nk_bd, nI_1]
    exact g1
theorem gc_cOk {N : Nat} (hN : 100000 ≤ N) {M : am_Mem} {t : Nat} {q : Rc} {w h : Int} (tq : TilR M t q) (g : Geo w h q.2.2.2) : fn10_commonDivisor N M t = some (nI (gcL q.2.2.2), M) := by
  have hl := g.2.1
  exact gc_c hN tq g q.2.2.2.length 0 N (by omega) (by omega)
