def tN (T : Nat → Int32) (s i : Nat) : Nat := (T (s + i)).toInt.toNat
theorem tN_lt {T : Nat → Int32} {s i : Nat} (h : isLt (T (s + i)) = true) : 97 ≤ tN T s i ∧ tN T s i ≤ 122 ∧ T (s + i) = nI (tN T s i) := by
  have h1 := (isLt_iff.mp h).1
  have h2 := (isLt_iff.mp h).2
  rw [Int32.le_iff_toInt_le] at h1 h2
  have e1 : (97 : Int32).toInt = 97 := rfl
  have e2 : (122 : Int32).toInt = 122 := rfl
  unfold tN
  refine ⟨by omega, by omega, ?_⟩
  rw [← Int32.toInt_inj, nI_toInt (by omega)]
  omega
theorem tN_dg {T : Nat → Int32} {s i : Nat} (h : isDg (T (s + i)) = true) : 48 ≤ tN T s i ∧ tN T s i ≤ 57 ∧ T (s + i) = nI (tN T s i) := by
  have h1 := (isDg_iff.mp h).1
  have h2 := (isDg_iff.mp h).2
  rw [Int32.le_iff_toInt_le] at h1 h2
  have e1 : (48 : Int32).toInt = 48 := rfl
  have e2 : (57 : Int32).toInt = 57 := rfl
  unfold tN
  refine ⟨by omega, by omega, ?_⟩
  rw [← Int32.toInt_inj, nI_toInt (by omega)]
  omega
theorem wC_eq {T : Nat → Int32} {s : Nat} : ∀ k, (∀ i, i < k → isLt (T (s + i)) = true) → wC T s k = lN (dgV 256 (tN T s) k) := by
  intro k
  induction k with
  | zero => intro _; rfl
  | succ k ih =>
    intro h
    obtain ⟨a, b, c⟩ := tN_lt (h k (by omega))
    show (wC T s k <<< ((8 : Int32).toInt64 &&& 63)) + (T (s + k)).toInt64 = lN (dgV 256 (tN T s) k * 256 + tN T s k)
    rw [ih (fun i hi => h i (by omega)), shl_8, ← lN_add, c, nI_l (by omega)]
theorem wM_eq {T : Nat → Int32} {s : Nat} : ∀ k, k ≤ 6 → (∀ i, i < k → isLt (T (s + i)) = true) → wM T s k = lN (dgV 32 (fun i => tN T s i - 96) k) := by
  intro k
  induction k with
  | zero => intro _ _; rfl
  | succ k ih =>
    intro hk h
    obtain ⟨a, b, c⟩ := tN_lt (h k (by omega))
    have hb : dgV 32 (fun i => tN T s i - 96) k < 32 ^ k := dgV_lt k (fun i hi => by
      have := tN_lt (h i (by omega))
      show tN T s i - 96 < 32
      omega)
    have h6 : 32 ^ k ≤ 32 ^ 6 := Nat.pow_le_pow_right (by decide) (by omega)
    have e6 : (32 : Nat) ^ 6 = 1073741824 := rfl
    have et : (T (s + k)).toInt64 - 96 = lN (tN T s k - 96) := by
      rw [c, nI_l (by omega), show (96 : Int64) = lN 96 from rfl, lN_sub (by omega)]
    show (if k < 6 then (wM T s k <<< ((5 : Int32).toInt64 &&& 63)) ||| ((T (s + k)).toInt64 - 96) else wM T s k) = lN (dgV 32 (fun i => tN T s i - 96) k * 32 + (tN T s k - 96))
    rw [if_pos (by omega), ih (by omega) (fun i hi => h i (by omega)), shl_5, et, or_5 (by omega) (by omega)]
theorem w_inj {f g : Nat → Nat} {k l : Nat} (hk : k ≤ 6) (hl : l ≤ 6) (hf : ∀ i, i < k → 97 ≤ f i ∧ f i ≤ 122) (hg : ∀ i, i < l → 97 ≤ g i ∧ g i ≤ 122) : (lN (dgV 256 f k) = lN (dgV 256 g l) ↔ lN (dgV 32 (fun i => f i - 96) k) = lN (dgV 32 (fun i => g i - 96) l)) := by
  have b1 : ∀ {h : Nat → Nat} {m : Nat}, m ≤ 6 → (∀ i, i < m → 97 ≤ h i ∧ h i ≤ 122) → dgV 256 h m < 2 ^ 63 := by
    intro h m hm hh
    have q1 := dgV_lt (B := 256) (f := h) m (fun i hi => by have := hh i hi; omega)
    have q2 : 256 ^ m ≤ 256 ^ 6 := Nat.pow_le_pow_right (by decide) hm
    have q3 : (256 : Nat) ^ 6 = 281474976710656 := rfl
    omega
  have b2 : ∀ {h : Nat → Nat} {m : Nat}, m ≤ 6 → (∀ i, i < m → 97 ≤ h i ∧ h i ≤ 122) → dgV 32 (fun i => h i - 96) m < 2 ^ 63 := by
    intro h m hm hh
    have q1 := dgV_lt (B := 32) (f := fun i => h i - 96) m (fun i hi => by
      have := hh i hi
      show h i - 96 < 32
      omega)
    have q2 : 32 ^ m ≤ 32 ^ 6 := Nat.pow_le_pow_right (by decide) hm
    have q3 : (32 : Nat) ^ 6 = 1073741824 := rfl
    omega
  have i1 := dgV_inj (B := 256) (f := f) (g := g) k l (fun i hi => by have := hf i hi; omega) (fun i hi => by have := hg i hi; omega)
  have i2 := dgV_inj (B := 32) (f := fun i => f i - 96) (g := fun i => g i - 96) k l (fun i hi => by
    have := hf i hi
    show 1 ≤ f i - 96 ∧ f i - 96 < 32
    omega) (fun i hi => by
    have := hg i hi
    show 1 ≤ g i - 96 ∧ g i - 96 < 32
    omega)
  constructor
  · intro h
    obtain ⟨e1, e2⟩ := i1.mp (lN_inj (b1 hk hf) (b1 hl hg) h)
    rw [i2.mpr ⟨e1, fun i hi => by show f i - 96 = g i - 96; rw [e2 i hi]⟩]
  · intro h
    obtain ⟨e1, e2⟩ := i2.mp (lN_inj (b2 hk hf) (b2 hl hg) h)
    rw [i1.mpr ⟨e1, fun i hi => by
      have a := hf i hi
      have b := hg i (by omega)
      have c : f i - 96 = g i - 96 := e2 i hi
      omega⟩]
/-- a word of the tape: where it begins, how long it is -/
def IsW (T : Nat → Int32) (s k : Nat) : Prop := k ≤ 6 ∧ ∀ i, i < k → isLt (T (s + i)) = true
theorem ww {T : Nat → Int32} {s k s' k' : Nat} (h : IsW T s k) (h' : IsW T s' k') : (wC T s k = wC T s' k' ↔ wM T s k = wM T s' k') := by
  rw [wC_eq k h.2, wC_eq k' h'.2, wM_eq k h.1 h.2, wM_eq k' h'.1 h'.2]
  exact w_inj h.1 h'.1 (fun i hi => ⟨(tN_lt (h.2 i hi)).1, (tN_lt (h.2 i hi)).2.1⟩) (fun i hi => ⟨(tN_lt (h'.2 i hi)).1, (tN_lt (h'.2 i hi)).2.1⟩)
def wdD (i : Nat) : Nat := if i = 0 then 100 else if i = 1 then 114 else if i = 2 then 97 else if i = 3 then 119 else 110
def wdN (i : Nat) : Nat := if i = 0 then 110 else if i = 1 then 101 else 116
theorem wd {T : Nat → Int32} {s k : Nat} (h : IsW T s k) : (wC T s k = 431415719790 ↔ wM T s k = 4785902) := by
  rw [wC_eq k h.2, wM_eq k h.1 h.2, show (431415719790 : Int64) = lN (dgV 256 wdD 5) from by decide, show (4785902 : Int64) = lN (dgV 32 (fun i => wdD i - 96) 5) from by decide]
  exact w_inj h.1 (by decide) (fun i hi => ⟨(tN_lt (h.2 i hi)).1, (tN_lt (h.2 i hi)).2.1⟩) (by decide)
theorem wn {T : Nat → Int32} {s k : Nat} (h : IsW T s k) : (wC T s k = 7234932 ↔ wM T s k = 14516) := by
  rw [wC_eq k h.2, wM_eq k h.1 h.2, show (7234932 : Int64) = lN (dgV 256 wdN 3) from by decide, show (14516 : Int64) = lN (dgV 32 (fun i => wdN i - 96) 3) from by decide]
  exact w_inj h.1 (by decide) (fun i hi => ⟨(tN_lt (h.2 i hi)).1, (tN_lt (h.2 i hi)).2.1⟩) (by decide)
def IsD (T : Nat → Int32) (s k : Nat) : Prop := k ≤ 4 ∧ ∀ i, i < k → isDg (T (s + i)) = true
def dN (T : Nat → Int32) (s k : Nat) : Nat := dgV 10 (fun i => tN T s i - 48) k
theorem dN_lt {T : Nat → Int32} {s k : Nat} (h : IsD T s k) : dN T s k < 10000 := by
  have q1 := dgV_lt (B := 10) (f := fun i => tN T s i - 48) k (fun i hi => by
    have := tN_dg (h.2 i hi)
    show tN T s i - 48 < 10
    omega)
  have q2 : 10 ^ k ≤ 10 ^ 4 := Nat.pow_le_pow_right (by decide) h.1
  have q3 : (10 : Nat) ^ 4 = 10000 := rfl
  unfold dN
  omega
theorem dC_eq {T : Nat → Int32} {s : Nat} : ∀ k, (∀ i, i < k → isDg (T (s + i)) = true) → dC T s k = lN (dN T s k) := by
  intro k
  induction k with
  | zero => intro _; rfl
  | succ k ih =>
    intro h
    obtain ⟨a, b, c⟩ := tN_dg (h k (by omega))
    have e : dN T s (k + 1) = 10 * dN T s k + tN T s k - 48 := by
      show dN T s k * 10 + (tN T s k - 48) = _
      omega
    show ((10 : Int64) * dC T s k + (T (s + k)).toInt64) - 48 = _
    rw [ih (fun i hi => h i (by omega)), e, ← lN_sub (by omega), ← lN_add, ← lN_mul, ← nI_l (n := tN T s k) (by omega), ← c]
    rfl
theorem dM_eq {T : Nat → Int32} {s : Nat} : ∀ k, k ≤ 4 → (∀ i, i < k → isDg (T (s + i)) = true) → dM T s k = nI (dN T s k) := by
  intro k
  induction k with
  | zero => intro _ _; rfl
  | succ k ih =>
    intro hk h
    obtain ⟨a, b, c⟩ := tN_dg (h k (by omega))
    have e : dN T s (k + 1) = 10 * dN T s k + tN T s k - 48 := by
      show dN T s k * 10 + (tN T s k - 48) = _
      omega
    show (if k < 4 then (10 * dM T s k + T (s + k)) - 48 else dM T s k) = _
    rw [if_pos (by omega), ih (by omega) (fun i hi => h i (by omega)), e, ← nk_sub _ _ (by omega), ← lw_add, ← c, show nI (10 * dN T s k) = 10 * nI (dN T s k) from Int32.ofNat_mul 10 _]
    rfl
