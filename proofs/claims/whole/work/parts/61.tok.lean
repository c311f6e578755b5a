/-! the tape's tokens -/
def tkR (P : Nat → Bool) (n : Nat) : Nat → Nat → Nat
  | 0, i => i
  | k + 1, i => if i < n ∧ P i = true then tkR P n k (i + 1) else i
/-- the first place from i on that is the end or has not P -/
def tkF (P : Nat → Bool) (n i : Nat) : Nat := tkR P n (n - i) i
theorem tkF_no {P : Nat → Bool} {n i : Nat} (h : ¬ (i < n ∧ P i = true)) : tkF P n i = i := by
  unfold tkF
  cases e : n - i with
  | zero => rfl
  | succ k => show (if i < n ∧ P i = true then _ else i) = i; rw [if_neg h]
theorem tkF_yes {P : Nat → Bool} {n i : Nat} (h : i < n) (hp : P i = true) : tkF P n i = tkF P n (i + 1) := by
  unfold tkF
  obtain ⟨k, hk⟩ : ∃ k, n - i = k + 1 := ⟨n - i - 1, by omega⟩
  have e : n - (i + 1) = k := by omega
  rw [hk, e]
  show (if i < n ∧ P i = true then tkR P n k (i + 1) else i) = _
  rw [if_pos ⟨h, hp⟩]
theorem tkF_ge (P : Nat → Bool) (n : Nat) : ∀ k i, n - i = k → i ≤ tkF P n i := by
  intro k
  induction k with
  | zero => intro i h; rw [tkF_no (fun q => by omega)]; exact Nat.le_refl i
  | succ k ih =>
    intro i h
    by_cases q : P i = true
    · rw [tkF_yes (by omega) q]
      have := ih (i + 1) (by omega)
      omega
    · rw [tkF_no (fun z => q z.2)]; exact Nat.le_refl i
theorem tkF_le {P : Nat → Bool} {n : Nat} : ∀ k i, n - i = k → i ≤ n → tkF P n i ≤ n := by
  intro k
  induction k with
  | zero => intro i h hi; rw [tkF_no (fun q => by omega)]; exact hi
  | succ k ih =>
    intro i h hi
    by_cases q : P i = true
    · rw [tkF_yes (by omega) q]
      exact ih (i + 1) (by omega) (by omega)
    · rw [tkF_no (fun z => q z.2)]; exact hi
theorem tkF_in {P : Nat → Bool} {n : Nat} : ∀ k i, n - i = k → ∀ j, i ≤ j → j < tkF P n i → P j = true := by
  intro k
  induction k with
  | zero => intro i h j h1 h2; rw [tkF_no (fun q => by omega)] at h2; omega
  | succ k ih =>
    intro i h j h1 h2
    by_cases q : P i = true
    · rw [tkF_yes (by omega) q] at h2
      by_cases e : j = i
      · rw [e]; exact q
      · exact ih (i + 1) (by omega) j (by omega) h2
    · rw [tkF_no (fun z => q z.2)] at h2; omega
theorem tkF_end {P : Nat → Bool} {n : Nat} : ∀ k i, n - i = k → ¬ (tkF P n i < n ∧ P (tkF P n i) = true) := by
  intro k
  induction k with
  | zero => intro i h; rw [tkF_no (fun q => by omega)]; exact fun q => by omega
  | succ k ih =>
    intro i h
    by_cases q : P i = true
    · rw [tkF_yes (by omega) q]; exact ih (i + 1) (by omega)
    · rw [tkF_no (fun z => q z.2)]; exact fun z => q z.2
def isSp (x : Int32) : Bool := decide (x = 32) || decide (x = 10)
def isLt (x : Int32) : Bool := decide (97 ≤ x) && decide (x ≤ 122)
def isDg (x : Int32) : Bool := decide (48 ≤ x) && decide (x ≤ 57)
def kOf (x : Int32) : Int32 := if isLt x = true then 1 else if isDg x = true then 2 else if x = 40 then 3 else if x = 41 then 4 else if x = 59 then 5 else 6
theorem isLt_iff {x : Int32} : isLt x = true ↔ 97 ≤ x ∧ x ≤ 122 := by
  unfold isLt; rw [Bool.and_eq_true, decide_eq_true_eq, decide_eq_true_eq]
theorem isDg_iff {x : Int32} : isDg x = true ↔ 48 ≤ x ∧ x ≤ 57 := by
  unfold isDg; rw [Bool.and_eq_true, decide_eq_true_eq, decide_eq_true_eq]
theorem kOf_ok (M : am_Mem) (x : Int32) : fn8_tokenBegunBy M x = some (kOf x, M) := by
  have dg : fn8_tokenBegunBy_b14 x M = some ((if isDg x = true then 2 else if x = 40 then 3 else if x = 41 then 4 else if x = 59 then 5 else 6 : Int32), M) := by
    have rest : fn8_tokenBegunBy_b28 x M = some ((if x = 40 then 3 else if x = 41 then 4 else if x = 59 then 5 else 6 : Int32), M) := by
      unfold fn8_tokenBegunBy_b28
      split
      · rfl
      · split
        · rfl
        · split <;> rfl
    unfold fn8_tokenBegunBy_b14
    rw [rest]
    by_cases h1 : x < 48
    · rw [if_pos h1, if_neg (show ¬ isDg x = true from fun h => Int32.not_lt.mpr (isDg_iff.mp h).1 h1)]
    · rw [if_neg h1]
      by_cases h2 : 57 < x
      · rw [if_pos h2, if_neg (show ¬ isDg x = true from fun h => Int32.not_lt.mpr (isDg_iff.mp h).2 h2)]
      · rw [if_neg h2, if_pos (isDg_iff.mpr ⟨Int32.not_lt.mp h1, Int32.not_lt.mp h2⟩)]
  unfold fn8_tokenBegunBy fn8_tokenBegunBy_b0 kOf
  rw [dg]
  by_cases h1 : x < 97
  · rw [if_pos h1, if_neg (show ¬ isLt x = true from fun h => Int32.not_lt.mpr (isLt_iff.mp h).1 h1)]
  · rw [if_neg h1]
    by_cases h2 : 122 < x
    · rw [if_pos h2, if_neg (show ¬ isLt x = true from fun h => Int32.not_lt.mpr (isLt_iff.mp h).2 h2)]
    · rw [if_neg h2, if_pos (isLt_iff.mpr ⟨Int32.not_lt.mp h1, Int32.not_lt.mp h2⟩)]
theorem kOf_1 {x : Int32} : kOf x = 1 ↔ isLt x = true := by
  unfold kOf
  by_cases h : isLt x = true
  · rw [if_pos h]; exact ⟨fun _ => h, fun _ => rfl⟩
  · rw [if_neg h]
    refine ⟨fun q => ?_, fun q => absurd q h⟩
    split at q
    · exact absurd q (by decide)
    · split at q
      · exact absurd q (by decide)
      · split at q
        · exact absurd q (by decide)
        · split at q <;> exact absurd q (by decide)
theorem lt_dg {x : Int32} (h : isDg x = true) : ¬ isLt x = true := fun q => by
  have h1 := (isDg_iff.mp h).2
  have h2 := (isLt_iff.mp q).1
  rw [Int32.le_iff_toInt_le] at h1 h2
  have e1 : (57 : Int32).toInt = 57 := rfl
  have e2 : (97 : Int32).toInt = 97 := rfl
  omega
theorem kOf_2 {x : Int32} : kOf x = 2 ↔ isDg x = true := by
  unfold kOf
  by_cases h : isDg x = true
  · rw [if_neg (lt_dg h), if_pos h]; exact ⟨fun _ => h, fun _ => rfl⟩
  · rw [if_neg h]
    refine ⟨fun q => ?_, fun q => absurd q h⟩
    split at q
    · exact absurd q (by decide)
    · split at q
      · exact absurd q (by decide)
      · split at q
        · exact absurd q (by decide)
        · split at q <;> exact absurd q (by decide)
theorem kOf_0 (x : Int32) : ¬ kOf x = 0 := by
  unfold kOf
  intro q
  split at q
  · exact absurd q (by decide)
  · split at q
    · exact absurd q (by decide)
    · split at q
      · exact absurd q (by decide)
      · split at q
        · exact absurd q (by decide)
        · split at q <;> exact absurd q (by decide)
/-- the token after the place i: where it begins, how, where it ends, what it is -/
def tkS (T : Nat → Int32) (n i : Nat) : Nat := tkF (fun j => isSp (T j)) n i
def tkB (T : Nat → Int32) (n i : Nat) : Int32 := if tkS T n i < n then kOf (T (tkS T n i)) else 0
def tkE (T : Nat → Int32) (n i : Nat) : Nat := if tkB T n i = 1 then tkF (fun j => isLt (T j)) n (tkS T n i) else if tkB T n i = 2 then tkF (fun j => isDg (T j)) n (tkS T n i) else if tkB T n i = 0 then tkS T n i else tkS T n i + 1
def tkK (T : Nat → Int32) (n i : Nat) : Int32 := if tkB T n i = 1 then (if tkE T n i - tkS T n i ≤ 6 then 1 else 6) else if tkB T n i = 2 then (if tkE T n i - tkS T n i ≤ 4 then 2 else 6) else tkB T n i
/-- what a word and a number are worth, to the class -/
def wC (T : Nat → Int32) (s : Nat) : Nat → Int64
  | 0 => 0
  | k + 1 => (wC T s k <<< ((8 : Int32).toInt64 &&& 63)) + (T (s + k)).toInt64
def dC (T : Nat → Int32) (s : Nat) : Nat → Int64
  | 0 => 0
  | k + 1 => ((10 : Int64) * dC T s k + (T (s + k)).toInt64) - 48
theorem tkS_ge (T : Nat → Int32) (n i : Nat) : i ≤ tkS T n i := tkF_ge _ n _ i rfl
theorem tkS_le {T : Nat → Int32} {n i : Nat} (h : i ≤ n) : tkS T n i ≤ n := tkF_le _ i rfl h
theorem tkE_ge (T : Nat → Int32) (n i : Nat) : tkS T n i ≤ tkE T n i := by
  unfold tkE
  split
  · exact tkF_ge _ n _ _ rfl
  · split
    · exact tkF_ge _ n _ _ rfl
    · split <;> omega
theorem tkB_0 {T : Nat → Int32} {n i : Nat} : tkB T n i = 0 ↔ ¬ tkS T n i < n := by
  unfold tkB
  by_cases h : tkS T n i < n
  · rw [if_pos h]; exact ⟨fun q => absurd q (kOf_0 _), fun q => absurd h q⟩
  · rw [if_neg h]; exact ⟨fun _ => h, fun _ => rfl⟩
theorem tkE_le {T : Nat → Int32} {n i : Nat} (h : i ≤ n) : tkE T n i ≤ n := by
  have hs := tkS_le (T := T) h
  unfold tkE
  split
  · exact tkF_le _ _ rfl hs
  · split
    · exact tkF_le _ _ rfl hs
    · split
      · exact hs
      · rename_i q
        have : tkS T n i < n := Classical.byContradiction (fun z => q (tkB_0.mpr z))
        omega
/-- the class stands at the token after i -/
def TokC (T : Nat → Int32) (n i : Nat) (M : am_Mem) : Prop := am_I M 2 1 = nI n ∧ am_I M 2 2 = nI (tkE T n i) ∧ am_I M 2 3 = tkK T n i ∧ am_I M 2 4 = nI (tkS T n i) ∧
  (tkB T n i = 1 → am_J M 2 5 = wC T (tkS T n i) (tkE T n i - tkS T n i)) ∧ (tkB T n i = 2 → am_J M 2 5 = dC T (tkS T n i) (tkE T n i - tkS T n i))
