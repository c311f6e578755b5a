theorem i88 (t c : Nat) : (8 : Int32) * nI t + nI c = nI (8 * t + c) := by
  rw [show (8 : Int32) * nI t = nI (8 * t) from (Int32.ofNat_mul 8 _).symm, lw_add]
section
variable {n k : Nat} {k8 : Nat → Int32 → Int64 → Int64 → Int32 → am_Mem → Option (Int64 × am_Mem)} {j4 : Int64}
/-- one row of the reference's matrix -/
theorem de_in {N i : Nat} {k157 : Nat → Int32 → Int64 → Int64 → Int32 → Int32 → am_Mem → Option (Int64 × am_Mem)} {P F d : Int} {A K B : Nat → Int} (hn : n ≤ 8) (hk : k < n) (hi : i < n) (hik : ¬ i = k) (hP : P.natAbs < 2147483648) (hF : F.natAbs < 2147483648) (hd : d.natAbs < 2147483648) (d0 : ¬ d = 0) (hA : ∀ y, k < y → y < n → (A y).natAbs < 2147483648) (hK : ∀ y, k < y → y < n → (K y).natAbs < 2147483648) (hB : ∀ y, k < y → y < n → A y * P - F * K y = d * B y) : ∀ m j fuel M, j + m = n → k < j → m < fuel → Shp M → (∀ y, j ≤ y → y < n → am_J M 133 (8 * i + y) = lI (A y)) → am_J M 133 (8 * k + k) = lI P → am_J M 133 (8 * i + k) = lI F → (∀ y, k < y → y < n → am_J M 133 (8 * k + y) = lI (K y)) → ∃ M', fn12_determinant_b169 N k8 k157 fuel 110 (nI n) (lI d) j4 (nI k) (nI i) (nI j) M = k157 110 (nI n) (lI d) j4 (nI k) (nI (i + 1)) M' ∧ Fs [133] M M' ∧ (∀ y, j ≤ y → y < n → am_J M' 133 (8 * i + y) = lI (B y)) ∧ ∀ z, (∀ y, j ≤ y → y < n → ¬ z = 8 * i + y) → am_J M' 133 z = am_J M 133 z := by
  intro m
  induction m with
  | zero =>
    intro j fuel M hj hkj hf s h1 h2 h3 h4
    obtain ⟨g, rfl⟩ : ∃ g, fuel = g + 1 := ⟨fuel - 1, by omega⟩
    refine ⟨M, ?_, fs_refl _ _, fun y a b => by omega, fun _ _ => rfl⟩
    show fn12_determinant_b169B N k8 k157 (fn12_determinant_b169 N k8 k157 g) 110 (nI n) (lI d) j4 (nI k) (nI i) (nI j) M = _
    unfold fn12_determinant_b169B
    rw [if_pos (nI_le (by omega) (by omega)), nI_1]
  | succ m ih =>
    intro j fuel M hj hkj hf s h1 h2 h3 h4
    obtain ⟨g, rfl⟩ : ∃ g, fuel = g + 1 := ⟨fuel - 1, by omega⟩
    have c1 : (nI (8 * i + j)).toNatClampNeg = 8 * i + j := nI_clamp (by omega)
    have c2 : (nI (8 * k + k)).toNatClampNeg = 8 * k + k := nI_clamp (by omega)
    have c3 : (nI (8 * i + k)).toNatClampNeg = 8 * i + k := nI_clamp (by omega)
    have c4 : (nI (8 * k + j)).toNatClampNeg = 8 * k + j := nI_clamp (by omega)
    have i1 : am_in (nI (8 * i + j)) 64 = true := nk_in (by omega) (by decide)
    have i2 : am_in (nI (8 * k + k)) 64 = true := nk_in (by omega) (by decide)
    have i3 : am_in (nI (8 * i + k)) 64 = true := nk_in (by omega) (by decide)
    have i4 : am_in (nI (8 * k + j)) 64 = true := nk_in (by omega) (by decide)
    have dz : decide (¬ lI d = 0) = true := decide_eq_true (fun e => d0 ((li_0 (by omega)).mp e))
    have st : fn12_determinant_b169 N k8 k157 (g + 1) 110 (nI n) (lI d) j4 (nI k) (nI i) (nI j) M = fn12_determinant_b169 N k8 k157 g 110 (nI n) (lI d) j4 (nI k) (nI i) (nI (j + 1)) (am_wJ M 133 (8 * i + j) (lI (B j))) := by
      show fn12_determinant_b169B N k8 k157 (fn12_determinant_b169 N k8 k157 g) 110 (nI n) (lI d) j4 (nI k) (nI i) (nI j) M = _
      unfold fn12_determinant_b169B
      rw [if_neg (nI_ge (by omega) (by omega))]
      simp only [nk_k, sk110 s, eq_self, decide_true, nk_ck, sr110_36 s, sk133 s, sl133 s, i88, c1, c2, c3, c4, i1, i2, i3, i4, dz, h1 j (Nat.le_refl j) (by omega), h2, h3, h4 j hkj (by omega), li_step (hA j hkj (by omega)) hP hF (hK j hkj (by omega)) hd d0 (hB j hkj (by omega)), nI_1]
    rw [st]
    have f1 : Fs [133] M (am_wJ M 133 (8 * i + j) (lI (B j))) := fs_wJ _ _ _ List.mem_cons_self
    obtain ⟨M', a1, a2, a3, a4⟩ := ih (j + 1) g _ (by omega) (by omega) (by omega) (fs_shp f1 s) (fun y hy1 hy2 => by rw [rJ_ix _ _ _ (by omega)]; exact h1 y (by omega) hy2) (by rw [rJ_ix _ _ _ (by omega)]; exact h2) (by rw [rJ_ix _ _ _ (by omega)]; exact h3) (fun y hy1 hy2 => by rw [rJ_ix _ _ _ (by omega)]; exact h4 y hy1 hy2)
    refine ⟨M', a1, fs_trans f1 a2, fun y hy1 hy2 => ?_, fun z hz => ?_⟩
    · by_cases e : y = j
      · rw [e, a4 _ (fun x hx1 hx2 => by omega), rJ_eq]
      · exact a3 y (by omega) hy2
    · rw [a4 z (fun y hy1 hy2 => hz y (by omega) hy2), rJ_ix _ _ _ (hz j (Nat.le_refl j) (by omega))]
theorem de_mid {N : Nat} {d : Int} {A B : Nat → Nat → Int} (hN : 100000 ≤ N) (hn : n ≤ 8) (hk : k < n) (hd : d.natAbs < 2147483648) (d0 : ¬ d = 0) (hA : ∀ i y, k ≤ i → i < n → k ≤ y → y < n → (A i y).natAbs < 2147483648) (hB : ∀ i y, k < i → i < n → k < y → y < n → A i y * A k k - A i k * A k y = d * B i y) : ∀ m i fuel M, i + m = n → k < i → m < fuel → Shp M → (∀ r, i ≤ r → r < n → ∀ y, k ≤ y → y < n → am_J M 133 (8 * r + y) = lI (A r y)) → (∀ y, k ≤ y → y < n → am_J M 133 (8 * k + y) = lI (A k y)) → (∀ r, k < r → r < i → ∀ y, k < y → y < n → am_J M 133 (8 * r + y) = lI (B r y)) → ∃ M', fn12_determinant_b157 N k8 fuel 110 (nI n) (lI d) j4 (nI k) (nI i) M = k8 110 (nI n) (lI (A k k)) j4 (nI (k + 1)) M' ∧ Fs [133] M M' ∧ ∀ r, k < r → r < n → ∀ y, k < y → y < n → am_J M' 133 (8 * r + y) = lI (B r y) := by
  intro m
  induction m with
  | zero =>
    intro i fuel M hi hki hf s h1 h2 h3
    obtain ⟨g, rfl⟩ : ∃ g, fuel = g + 1 := ⟨fuel - 1, by omega⟩
    refine ⟨M, ?_, fs_refl _ _, fun r hr1 hr2 y hy1 hy2 => h3 r hr1 (by omega) y hy1 hy2⟩
    show fn12_determinant_b157B N k8 (fn12_determinant_b157 N k8 g) 110 (nI n) (lI d) j4 (nI k) (nI i) M = _
    unfold fn12_determinant_b157B fn12_determinant_b271
    rw [if_pos (nI_le (by omega) (by omega)), nk_k, sk110 s, nk_dd, sr110_36 s, nk_k, sk133 s, nk_dd, sl133 s, i88, nk_in (show 8 * k + k < 64 by omega) (by decide), nk_ck, nI_clamp (by omega), h2 k (Nat.le_refl k) hk, nI_1]
  | succ m ih =>
    intro i fuel M hi hki hf s h1 h2 h3
    obtain ⟨g, rfl⟩ : ∃ g, fuel = g + 1 := ⟨fuel - 1, by omega⟩
    have st : fn12_determinant_b157 N k8 (g + 1) 110 (nI n) (lI d) j4 (nI k) (nI i) M = fn12_determinant_b169 N k8 (fn12_determinant_b157 N k8 g) N 110 (nI n) (lI d) j4 (nI k) (nI i) (nI (k + 1)) M := by
      show fn12_determinant_b157B N k8 (fn12_determinant_b157 N k8 g) 110 (nI n) (lI d) j4 (nI k) (nI i) M = _
      unfold fn12_determinant_b157B
      rw [if_neg (nI_ge (by omega) (by omega)), nI_1]
    rw [st]
    obtain ⟨M1, a1, a2, a3, a4⟩ := de_in (N := N) (k8 := k8) (j4 := j4) (k157 := fn12_determinant_b157 N k8 g) (P := A k k) (F := A i k) (A := A i) (K := A k) (B := B i) hn hk (show i < n by omega) (show ¬ i = k by omega) (hA k k (Nat.le_refl k) hk (Nat.le_refl k) hk) (hA i k (by omega) (by omega) (Nat.le_refl k) hk) hd d0 (fun y hy1 hy2 => hA i y (by omega) (by omega) (by omega) hy2) (fun y hy1 hy2 => hA k y (by omega) hk (by omega) hy2) (fun y hy1 hy2 => hB i y hki (by omega) hy1 hy2) (n - (k + 1)) (k + 1) N M (by omega) (by omega) (by omega) s (fun y hy1 hy2 => h1 i (Nat.le_refl i) (by omega) y (by omega) hy2) (h2 k (Nat.le_refl k) hk) (h1 i (Nat.le_refl i) (by omega) k (Nat.le_refl k) hk) (fun y hy1 hy2 => h2 y (by omega) hy2)
    rw [a1]
    obtain ⟨M2, b1, b2, b3⟩ := ih (i + 1) g M1 (by omega) (by omega) (by omega) (fs_shp a2 s) (fun r hr1 hr2 y hy1 hy2 => by rw [a4 _ (fun x hx1 hx2 => by omega)]; exact h1 r (by omega) hr2 y hy1 hy2) (fun y hy1 hy2 => by rw [a4 _ (fun x hx1 hx2 => by omega)]; exact h2 y hy1 hy2) (fun r hr1 hr2 y hy1 hy2 => by
      by_cases e : r = i
      · rw [e]; exact a3 y (by omega) hy2
      · rw [a4 _ (fun x hx1 hx2 => by omega)]; exact h3 r hr1 (by omega) y hy1 hy2)
    exact ⟨M2, b1, fs_trans a2 b2, b3⟩
/-- the first row with a pivot -/
theorem de_fnd {N : Nat} {j2 : Int64} {E : Nat → Int} (hn : n ≤ 8) (hk : k < n) {M : am_Mem} (s : Shp M) (hE : ∀ i, k ≤ i → i < n → am_J M 133 (8 * i + k) = lI (E i) ∧ (E i).natAbs < 2147483648) : ∀ m x fuel, x + m = n → k ≤ x → m < fuel → ∃ y, x ≤ y ∧ y ≤ n ∧ fn12_determinant_b18 N k8 fuel 110 (nI n) j2 j4 (nI k) (nI x) M = fn12_determinant_b48 N k8 110 (nI n) j2 j4 (nI k) (nI y) M ∧ (∀ i, x ≤ i → i < y → E i = 0) ∧ (y < n → ¬ E y = 0) := by
  intro m
  induction m with
  | zero =>
    intro x fuel hx hkx hf
    obtain ⟨g, rfl⟩ : ∃ g, fuel = g + 1 := ⟨fuel - 1, by omega⟩
    refine ⟨x, Nat.le_refl x, by omega, ?_, fun i h1 h2 => by omega, fun h => by omega⟩
    show fn12_determinant_b18B N k8 (fn12_determinant_b18 N k8 g) 110 (nI n) j2 j4 (nI k) (nI x) M = _
    unfold fn12_determinant_b18B
    rw [if_pos (nI_le (by omega) (by omega))]
  | succ m ih =>
    intro x fuel hx hkx hf
    obtain ⟨g, rfl⟩ : ∃ g, fuel = g + 1 := ⟨fuel - 1, by omega⟩
    obtain ⟨e1, e2⟩ := hE x hkx (by omega)
    have st : fn12_determinant_b18 N k8 (g + 1) 110 (nI n) j2 j4 (nI k) (nI x) M = (if lg_cmp (lI (E x)) 0 = 0 then fn12_determinant_b18 N k8 g 110 (nI n) j2 j4 (nI k) (nI (x + 1)) M else fn12_determinant_b48 N k8 110 (nI n) j2 j4 (nI k) (nI x) M) := by
      show fn12_determinant_b18B N k8 (fn12_determinant_b18 N k8 g) 110 (nI n) j2 j4 (nI k) (nI x) M = _
      unfold fn12_determinant_b18B
      rw [if_neg (nI_ge (by omega) (by omega)), nk_k, sk110 s, nk_dd, sr110_36 s, nk_k, sk133 s, nk_dd, sl133 s, i88, nk_in (show 8 * x + k < 64 by omega) (by decide), nk_ck, nI_clamp (by omega), e1, nI_1]
    rw [st]
    by_cases z : E x = 0
    · rw [if_pos ((lg_cmp_eq _ _).mpr ((li_0 (by omega)).mpr z))]
      obtain ⟨y, b1, b2, b3, b4, b5⟩ := ih (x + 1) g (by omega) (by omega) (by omega)
      refine ⟨y, by omega, b2, b3, fun i h1 h2 => ?_, b5⟩
      by_cases e : i = x
      · rw [e]; exact z
      · exact b4 i (by omega) h2
    · rw [if_neg (fun e => z ((li_0 (by omega)).mp ((lg_cmp_eq _ _).mp e)))]
      exact ⟨x, Nat.le_refl x, by omega, rfl, fun i h1 h2 => by omega, fun _ => z⟩
/-- two rows, one for the other -/
theorem de_swp {N x : Nat} {j2 : Int64} (hn : n ≤ 8) (hk : k < n) (hx : x < n) (hxk : ¬ x = k) : ∀ m y fuel M, y + m = n → m < fuel → Shp M → ∃ M', fn12_determinant_b59 N k8 fuel 110 (nI n) j2 j4 (nI k) (nI x) (nI y) M = fn12_determinant_b134 N k8 110 (nI n) j2 j4 (nI k) (nI x) M' ∧ Fs [133] M M' ∧ (∀ z, y ≤ z → z < n → am_J M' 133 (8 * x + z) = am_J M 133 (8 * k + z) ∧ am_J M' 133 (8 * k + z) = am_J M 133 (8 * x + z)) ∧ ∀ q, (∀ z, y ≤ z → z < n → ¬ q = 8 * x + z ∧ ¬ q = 8 * k + z) → am_J M' 133 q = am_J M 133 q := by
  intro m
  induction m with
  | zero =>
    intro y fuel M hy hf s
    obtain ⟨g, rfl⟩ : ∃ g, fuel = g + 1 := ⟨fuel - 1, by omega⟩
    refine ⟨M, ?_, fs_refl _ _, fun z h1 h2 => by omega, fun _ _ => rfl⟩
    show fn12_determinant_b59B N k8 (fn12_determinant_b59 N k8 g) 110 (nI n) j2 j4 (nI k) (nI x) (nI y) M = _
    unfold fn12_determinant_b59B
    rw [if_pos (nI_le (by omega) (by omega))]
  | succ m ih =>
    intro y fuel M hy hf s
    obtain ⟨g, rfl⟩ : ∃ g, fuel = g + 1 := ⟨fuel - 1, by omega⟩
    have c1 : (nI (8 * x + y)).toNatClampNeg = 8 * x + y := nI_clamp (by omega)
    have c2 : (nI (8 * k + y)).toNatClampNeg = 8 * k + y := nI_clamp (by omega)
    have i1 : am_in (nI (8 * x + y)) 64 = true := nk_in (by omega) (by decide)
    have i2 : am_in (nI (8 * k + y)) 64 = true := nk_in (by omega) (by decide)
    have st : fn12_determinant_b59 N k8 (g + 1) 110 (nI n) j2 j4 (nI k) (nI x) (nI y) M = fn12_determinant_b59 N k8 g 110 (nI n) j2 j4 (nI k) (nI x) (nI (y + 1)) (am_wJ (am_wJ M 133 (8 * x + y) (am_J M 133 (8 * k + y))) 133 (8 * k + y) (am_J M 133 (8 * x + y))) := by
      show fn12_determinant_b59B N k8 (fn12_determinant_b59 N k8 g) 110 (nI n) j2 j4 (nI k) (nI x) (nI y) M = _
      unfold fn12_determinant_b59B fn12_determinant_b87
      rw [if_neg (nI_ge (by omega) (by omega)), if_neg (fun e => hxk (nI_inj (by omega) (by omega) e))]
      simp only [nk_k, sk110 s, eq_self, decide_true, nk_ck, sr110_36 s, sk133 s, sl133 s, i88, c1, c2, i1, i2, nI_1]
    rw [st]
    have f1 : Fs [133] M (am_wJ (am_wJ M 133 (8 * x + y) (am_J M 133 (8 * k + y))) 133 (8 * k + y) (am_J M 133 (8 * x + y))) := fs_trans (fs_wJ _ _ _ List.mem_cons_self) (fs_wJ _ _ _ List.mem_cons_self)
    obtain ⟨M', a1, a2, a3, a4⟩ := ih (y + 1) g _ (by omega) (by omega) (fs_shp f1 s)
    refine ⟨M', a1, fs_trans f1 a2, fun z h1 h2 => ?_, fun q hq => ?_⟩
    · by_cases e : z = y
      · rw [e, a4 _ (fun w w1 w2 => by omega), a4 _ (fun w w1 w2 => by omega), rJ_ix _ _ _ (show ¬ 8 * x + y = 8 * k + y by omega), rJ_eq, rJ_eq]
        exact ⟨rfl, rfl⟩
      · obtain ⟨b1, b2⟩ := a3 z (by omega) h2
        rw [b1, b2, rJ_ix _ _ _ (show ¬ 8 * k + z = 8 * k + y by omega), rJ_ix _ _ _ (show ¬ 8 * k + z = 8 * x + y by omega), rJ_ix _ _ _ (show ¬ 8 * x + z = 8 * k + y by omega), rJ_ix _ _ _ (show ¬ 8 * x + z = 8 * x + y by omega)]
        exact ⟨rfl, rfl⟩
    · have := hq y (Nat.le_refl y) (by omega)
      rw [a4 q (fun z h1 h2 => hq z (by omega) h2), rJ_ix _ _ _ this.2, rJ_ix _ _ _ this.1]
end
