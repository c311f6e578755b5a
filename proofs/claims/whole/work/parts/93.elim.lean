/-- whole numbers as longs -/
def lI (z : Int) : Int64 := Int64.ofInt z
theorem li_toInt {z : Int} (h : z.natAbs < 9223372036854775808) : (lI z).toInt = z := Int64.toInt_ofInt_of_le (by omega) (by omega)
theorem li_inj {a b : Int} (ha : a.natAbs < 9223372036854775808) (hb : b.natAbs < 9223372036854775808) (e : lI a = lI b) : a = b := by
  rw [← li_toInt ha, ← li_toInt hb, e]
theorem li_0 {a : Int} (ha : a.natAbs < 9223372036854775808) : (lI a = 0) ↔ a = 0 := ⟨fun e => li_inj ha (by decide) e, fun e => by rw [e]; rfl⟩
theorem li_div {d q : Int} (hd : ¬ d = 0) (h1 : d.natAbs < 9223372036854775808) (h2 : (d * q).natAbs < 9223372036854775808) : lI (d * q) / lI d = lI q := by
  apply Int64.toInt_inj.mp
  have ne : ¬ lI (d * q) = Int64.minValue := by
    intro e
    have := congrArg Int64.toInt e
    rw [li_toInt h2, show Int64.minValue.toInt = -9223372036854775808 from rfl] at this
    omega
  rw [Int64.toInt_div_of_ne_left _ _ ne, li_toInt h2, li_toInt h1, Int.mul_tdiv_cancel_left _ hd, li_toInt]
  rw [Int.natAbs_mul] at h2
  have : 1 ≤ d.natAbs := by omega
  have := Nat.mul_le_mul_right q.natAbs this
  omega
/-- one entry of an elimination without fractions -/
theorem li_step {p a f b d q : Int} (hp : p.natAbs < 2147483648) (ha : a.natAbs < 2147483648) (hf : f.natAbs < 2147483648) (hb : b.natAbs < 2147483648) (hd : d.natAbs < 2147483648) (d0 : ¬ d = 0) (e : p * a - f * b = d * q) : (lI p * lI a - lI f * lI b) / lI d = lI q := by
  have e1 : lI p * lI a - lI f * lI b = lI (d * q) := by
    rw [← e]
    unfold lI
    rw [Int64.ofInt_sub, Int64.ofInt_mul, Int64.ofInt_mul]
  rw [e1]
  refine li_div d0 (by omega) ?_
  rw [← e]
  have m1 : (p * a).natAbs ≤ 2147483647 * 2147483647 := by
    rw [Int.natAbs_mul]
    exact Nat.mul_le_mul (by omega) (by omega)
  have m2 : (f * b).natAbs ≤ 2147483647 * 2147483647 := by
    rw [Int.natAbs_mul]
    exact Nat.mul_le_mul (by omega) (by omega)
  omega
section
variable {M : am_Mem}
/-- the rows of the class's matrix -/
theorem s26t (s : Shp M) {t : Nat} (ht : t < 9) : am_R M 26 t = 27 + t ∧ am_K M (27 + t) = 15 ∧ am_L M (27 + t) = 10 := by
  match t, ht with
  | 0, _ => exact ⟨sr26_0 s, sk27 s, sl27 s⟩
  | 1, _ => exact ⟨sr26_1 s, sk28 s, sl28 s⟩
  | 2, _ => exact ⟨sr26_2 s, sk29 s, sl29 s⟩
  | 3, _ => exact ⟨sr26_3 s, sk30 s, sl30 s⟩
  | 4, _ => exact ⟨sr26_4 s, sk31 s, sl31 s⟩
  | 5, _ => exact ⟨sr26_5 s, sk32 s, sl32 s⟩
  | 6, _ => exact ⟨sr26_6 s, sk33 s, sl33 s⟩
  | 7, _ => exact ⟨sr26_7 s, sk34 s, sl34 s⟩
  | 8, _ => exact ⟨sr26_8 s, sk35 s, sl35 s⟩
theorem i32_nl {a b : Nat} (h : ¬ a < b) (hb : b < 2147483648) (ha : a < 2147483648) : ¬ nI a < nI b := Int32.not_lt.mpr (nI_le (by omega) (by omega))
/-- a row reduced -/
theorem rr_loop {N n i k : Nat} {P F d : Int} {A K B : Nat → Int} (hn : n ≤ 8) (hi : i < 9) (hk : k < 9) (hik : ¬ i = k) (hP : P.natAbs < 2147483648) (hF : F.natAbs < 2147483648) (hd : d.natAbs < 2147483648) (d0 : ¬ d = 0) (hA : ∀ j, j ≤ n → (A j).natAbs < 2147483648) (hK : ∀ j, j ≤ n → (K j).natAbs < 2147483648) (hB : ∀ j, j ≤ n → P * A j - F * K j = d * B j) : ∀ m j fuel M, j + m = n + 1 → m < fuel → Shp M → (∀ y, j ≤ y → y ≤ n → am_J M (27 + i) y = lI (A y)) → (∀ y, y ≤ n → am_J M (27 + k) y = lI (K y)) → ∃ M', fn5_reduceRow_b31 N fuel 25 (nI i) (nI k) (nI n) (lI d) (lI P) (lI F) (nI j) M = some ((), M') ∧ Fs [27 + i] M M' ∧ (∀ y, j ≤ y → y ≤ n → am_J M' (27 + i) y = lI (B y)) ∧ ∀ y, y < j → am_J M' (27 + i) y = am_J M (27 + i) y := by
  intro m
  induction m with
  | zero =>
    intro j fuel M hj hf s hA' hK'
    obtain ⟨g, rfl⟩ : ∃ g, fuel = g + 1 := ⟨fuel - 1, by omega⟩
    refine ⟨M, ?_, fs_refl _ _, fun y a b => by omega, fun _ _ => rfl⟩
    show fn5_reduceRow_b31B N (fn5_reduceRow_b31 N g) 25 (nI i) (nI k) (nI n) (lI d) (lI P) (lI F) (nI j) M = _
    unfold fn5_reduceRow_b31B
    rw [if_pos (nI_lt (by omega) (by omega))]
  | succ m ih =>
    intro j fuel M hj hf s hA' hK'
    obtain ⟨g, rfl⟩ : ∃ g, fuel = g + 1 := ⟨fuel - 1, by omega⟩
    obtain ⟨r1, k1, l1⟩ := s26t s hi
    obtain ⟨r2, k2, l2⟩ := s26t s hk
    have f1 : Fs [27 + i] M (am_wJ M (27 + i) j (lI (B j))) := fs_wJ _ _ _ List.mem_cons_self
    have s1 := fs_shp f1 s
    have dz : decide (¬ lI d = 0) = true := decide_eq_true (fun e => d0 ((li_0 (by omega)).mp e))
    have st : fn5_reduceRow_b31 N (g + 1) 25 (nI i) (nI k) (nI n) (lI d) (lI P) (lI F) (nI j) M = fn5_reduceRow_b31 N g 25 (nI i) (nI k) (nI n) (lI d) (lI P) (lI F) (nI (j + 1)) (am_wJ M (27 + i) j (lI (B j))) := by
      show fn5_reduceRow_b31B N (fn5_reduceRow_b31 N g) 25 (nI i) (nI k) (nI n) (lI d) (lI P) (lI F) (nI j) M = _
      unfold fn5_reduceRow_b31B
      have c1 : (nI i).toNatClampNeg = i := nI_clamp (by omega)
      have c2 : (nI k).toNatClampNeg = k := nI_clamp (by omega)
      have c3 : (nI j).toNatClampNeg = j := nI_clamp (by omega)
      have i1 : am_in (nI i) 9 = true := nk_in hi (by decide)
      have i2 : am_in (nI k) 9 = true := nk_in hk (by decide)
      have i3 : am_in (nI j) 10 = true := nk_in (by omega) (by decide)
      rw [if_neg (i32_nl (by omega) (by omega) (by omega))]
      simp only [nk_k, sk25 s, eq_self, decide_true, nk_ck, sr25_0 s, sk26 s, sl26 s, c1, c2, c3, i1, i2, r1, r2, k1, k2, l1, l2, i3, dz, nI_1, hA' j (Nat.le_refl j) (by omega), hK' j (by omega), li_step hP (hA j (by omega)) hF (hK j (by omega)) hd d0 (hB j (by omega))]
    rw [st]
    obtain ⟨M', a1, a2, a3, a4⟩ := ih (j + 1) g (am_wJ M (27 + i) j (lI (B j))) (by omega) (by omega) s1 (fun y h1 h2 => by rw [rJ_ix _ _ _ (by omega)]; exact hA' y (by omega) h2) (fun y hy => by rw [rJ_ne _ _ _ (by omega)]; exact hK' y hy)
    refine ⟨M', a1, fs_trans f1 a2, fun y h1 h2 => ?_, fun y hy => ?_⟩
    · by_cases e : y = j
      · rw [e, a4 j (by omega), rJ_eq]
      · exact a3 y (by omega) h2
    · rw [a4 y (by omega), rJ_ix _ _ _ (by omega)]
theorem rr_c {N n i k : Nat} {P F d : Int} {A K B : Nat → Int} (hN : 100000 ≤ N) (hn : n ≤ 8) (hi : i < 9) (hk : k ≤ n) (hik : ¬ i = k) (eP : K k = P) (eF : A k = F) (hd : d.natAbs < 2147483648) (d0 : ¬ d = 0) (hA : ∀ j, j ≤ n → (A j).natAbs < 2147483648) (hK : ∀ j, j ≤ n → (K j).natAbs < 2147483648) (hB : ∀ j, j ≤ n → P * A j - F * K j = d * B j) (s : Shp M) (hA' : ∀ y, y ≤ n → am_J M (27 + i) y = lI (A y)) (hK' : ∀ y, y ≤ n → am_J M (27 + k) y = lI (K y)) : ∃ M', fn5_reduceRow N M 25 (nI i) (nI k) (nI n) (lI d) = some ((), M') ∧ Fs [27 + i] M M' ∧ ∀ y, y ≤ n → am_J M' (27 + i) y = lI (B y) := by
  obtain ⟨r1, k1, l1⟩ := s26t s hi
  obtain ⟨r2, k2, l2⟩ := s26t s (show k < 9 by omega)
  have c1 : (nI i).toNatClampNeg = i := nI_clamp (by omega)
  have c2 : (nI k).toNatClampNeg = k := nI_clamp (by omega)
  have i1 : am_in (nI i) 9 = true := nk_in hi (by decide)
  have i2 : am_in (nI k) 9 = true := nk_in (by omega) (by decide)
  have i3 : am_in (nI k) 10 = true := nk_in (by omega) (by decide)
  have p1 := hK' k hk
  have p2 := hA' k hk
  rw [eP] at p1
  rw [eF] at p2
  obtain ⟨M', a1, a2, a3, _⟩ := rr_loop (N := N) (P := P) (F := F) hn hi (show k < 9 by omega) hik (by rw [← eP]; exact hK k hk) (by rw [← eF]; exact hA k hk) hd d0 hA hK hB (n + 1) 0 N M (by omega) (by omega) s (fun y _ h => hA' y h) hK'
  refine ⟨M', ?_, a2, fun y h => a3 y (Nat.zero_le y) h⟩
  unfold fn5_reduceRow fn5_reduceRow_b0 fn5_reduceRow_b18 fn5_reduceRow_b28
  rw [if_neg (fun e => d0 ((li_0 (by omega)).mp ((lg_cmp_eq _ _).mp e)))]
  simp only [nk_k, sk25 s, eq_self, decide_true, nk_ck, sr25_0 s, sk26 s, sl26 s, c1, c2, i1, i2, i3, r1, r2, k1, k2, l1, l2, p1, p2]
  exact a1
end
/-- what the class's matrix holds -/
def MtC (M : am_Mem) (n : Nat) (A : Nat → Nat → Int) : Prop := ∀ i, i < n → ∀ j, j ≤ n → am_J M (27 + i) j = lI (A i j)
def mtW : List Nat := [27, 28, 29, 30, 31, 32, 33, 34, 35]
theorem mtW_t {t : Nat} (h : t < 9) : 27 + t ∈ mtW := by
  match t, h with
  | 0, _ => decide
  | 1, _ => decide
  | 2, _ => decide
  | 3, _ => decide
  | 4, _ => decide
  | 5, _ => decide
  | 6, _ => decide
  | 7, _ => decide
  | 8, _ => decide
section
variable {L : Nat → Nat → Int} {n : Nat}
theorem el_in {N k : Nat} {k5 : Nat → Int32 → Int64 → Int32 → am_Mem → Option (Int64 × am_Mem)} (hN : 100000 ≤ N) (hn : n ≤ 8) (hk : k < n) (d0 : ¬ dt k (fun i => i) (cxM L n) = 0) (hs : ∀ k i j, k ≤ n → i < n → j ≤ n → (GJ L n k i j).natAbs < 2147483648) (hd : (dt k (fun i => i) (cxM L n)).natAbs < 2147483648) : ∀ m i fuel M, i + m = n → m < fuel → Shp M → (∀ r, r < i → ∀ j, j ≤ n → am_J M (27 + r) j = lI (GJ L n (k + 1) r j)) → (∀ r, i ≤ r → r < n → ∀ j, j ≤ n → am_J M (27 + r) j = lI (GJ L n k r j)) → ∃ M', fn5_eliminate_b35 N k5 fuel 25 (nI n) (lI (dt k (fun i => i) (cxM L n))) (nI k) (lI (GJ L n k k k)) (nI i) M = k5 25 (nI n) (lI (GJ L n k k k)) (nI (k + 1)) M' ∧ Fs mtW M M' ∧ MtC M' n (GJ L n (k + 1)) := by
  intro m
  induction m with
  | zero =>
    intro i fuel M hi hf s h1 h2
    obtain ⟨g, rfl⟩ : ∃ g, fuel = g + 1 := ⟨fuel - 1, by omega⟩
    refine ⟨M, ?_, fs_refl _ _, fun r hr j hj => h1 r (by omega) j hj⟩
    show fn5_eliminate_b35B N k5 (fn5_eliminate_b35 N k5 g) 25 (nI n) _ (nI k) _ (nI i) M = _
    unfold fn5_eliminate_b35B
    rw [if_pos (nI_le (by omega) (by omega)), nI_1]
  | succ m ih =>
    intro i fuel M hi hf s h1 h2
    obtain ⟨g, rfl⟩ : ∃ g, fuel = g + 1 := ⟨fuel - 1, by omega⟩
    have st : fn5_eliminate_b35 N k5 (g + 1) 25 (nI n) (lI (dt k (fun i => i) (cxM L n))) (nI k) (lI (GJ L n k k k)) (nI i) M = (if nI i = nI k then fn5_eliminate_b35 N k5 g 25 (nI n) (lI (dt k (fun i => i) (cxM L n))) (nI k) (lI (GJ L n k k k)) (nI (i + 1)) M else am_bd (fn5_reduceRow N M 25 (nI i) (nI k) (nI n) (lI (dt k (fun i => i) (cxM L n)))) (fun v2 M3 => fn5_eliminate_b35 N k5 g 25 (nI n) (lI (dt k (fun i => i) (cxM L n))) (nI k) (lI (GJ L n k k k)) (nI (i + 1)) M3)) := by
      show fn5_eliminate_b35B N k5 (fn5_eliminate_b35 N k5 g) 25 (nI n) _ (nI k) _ (nI i) M = _
      unfold fn5_eliminate_b35B fn5_eliminate_b58
      rw [if_neg (nI_ge (by omega) (by omega)), nk_k, sk25 s, nk_dd, nI_1]
    rw [st]
    by_cases e : i = k
    · rw [if_pos (congrArg nI e)]
      refine ih (i + 1) g M (by omega) (by omega) s (fun r hr j hj => ?_) (fun r hr hr2 => h2 r (by omega) hr2)
      by_cases q : r = i
      · rw [q, h2 i (Nat.le_refl i) (by omega) j hj, e, gj_kj d0]
      · exact h1 r (by omega) j hj
    · rw [if_neg (fun z => e (nI_inj (by omega) (by omega) z))]
      have hK' : ∀ y, y ≤ n → am_J M (27 + k) y = lI (GJ L n k k y) := by
        intro y hy
        by_cases q : k < i
        · rw [h1 k q y hy, gj_kj d0]
        · exact h2 k (by omega) hk y hy
      obtain ⟨M1, a1, a2, a3⟩ := rr_c (N := N) (A := GJ L n k i) (K := GJ L n k k) (B := GJ L n (k + 1) i) hN hn (show i < 9 by omega) (show k ≤ n by omega) e rfl rfl hd d0 (fun j hj => hs k i j (by omega) (by omega) hj) (fun j hj => hs k k j (by omega) hk hj) (fun j hj => gj_step d0 e j) s (fun y hy => h2 i (Nat.le_refl i) (by omega) y hy) hK'
      rw [a1, nk_bd]
      have n1 : ∀ r, r < i + 1 → ∀ j, j ≤ n → am_J M1 (27 + r) j = lI (GJ L n (k + 1) r j) := by
        intro r hr j hj
        by_cases q : r = i
        · rw [q]; exact a3 j hj
        · rw [fs_J a2 (by rw [List.mem_singleton]; omega)]; exact h1 r (by omega) j hj
      have n2 : ∀ r, i + 1 ≤ r → r < n → ∀ j, j ≤ n → am_J M1 (27 + r) j = lI (GJ L n k r j) := by
        intro r hr hr2 j hj
        rw [fs_J a2 (by rw [List.mem_singleton]; omega)]; exact h2 r (by omega) hr2 j hj
      obtain ⟨M2, b1, b2, b3⟩ := ih (i + 1) g M1 (by omega) (by omega) (fs_shp a2 s) n1 n2
      exact ⟨M2, b1, fs_trans (fs_mono a2 (fun x hx => by rw [List.mem_singleton.mp hx]; exact mtW_t (by omega))) b2, b3⟩
end
section
variable {a b : Nat → Nat} {W n : Nat}
theorem el_c {N : Nat} (hN : 100000 ≤ N) (hn : n ≤ 8) (hs : ∀ k i j, k ≤ n → i < n → j ≤ n → (GJ (Lap a b W) n k i j).natAbs < 2147483648) : ∀ m k fuel M, k + m = n → m < fuel → Shp M → MtC M n (GJ (Lap a b W) n k) → 0 < dt k (fun i => i) (Lap a b W) → (dt k (fun i => i) (Lap a b W)).natAbs < 2147483648 → ∃ M', fn5_eliminate_b5 N fuel 25 (nI n) (lI (dt k (fun i => i) (Lap a b W))) (nI k) M = some (lI (dt n (fun i => i) (Lap a b W)), M') ∧ Fs mtW M M' ∧ 0 ≤ dt n (fun i => i) (Lap a b W) ∧ (¬ dt n (fun i => i) (Lap a b W) = 0 → MtC M' n (GJ (Lap a b W) n n)) := by
  intro m
  induction m with
  | zero =>
    intro k fuel M hk hf s h d0 hd
    obtain ⟨g, rfl⟩ : ∃ g, fuel = g + 1 := ⟨fuel - 1, by omega⟩
    have e : k = n := by omega
    subst e
    refine ⟨M, ?_, fs_refl _ _, by omega, fun _ => h⟩
    show fn5_eliminate_b5B N (fn5_eliminate_b5 N g) 25 (nI k) _ (nI k) M = _
    unfold fn5_eliminate_b5B
    rw [if_pos (nI_le (Nat.le_refl k) (by omega))]
  | succ m ih =>
    intro k fuel M hk hf s h d0 hd
    obtain ⟨g, rfl⟩ : ∃ g, fuel = g + 1 := ⟨fuel - 1, by omega⟩
    have kn : k < n := by omega
    obtain ⟨r1, k1, l1⟩ := s26t s (show k < 9 by omega)
    have c1 : (nI k).toNatClampNeg = k := nI_clamp (by omega)
    have i1 : am_in (nI k) 9 = true := nk_in (by omega) (by decide)
    have i2 : am_in (nI k) 10 = true := nk_in (by omega) (by decide)
    have ed : dt k (fun i => i) (cxM (Lap a b W) n) = dt k (fun i => i) (Lap a b W) := gj_d (by omega)
    have ep : GJ (Lap a b W) n k k k = dt (k + 1) (fun i => i) (Lap a b W) := by rw [gj_pk, gj_d (by omega)]
    have ps := hs k k k (by omega) kn (by omega)
    have st : fn5_eliminate_b5 N (g + 1) 25 (nI n) (lI (dt k (fun i => i) (Lap a b W))) (nI k) M = fn5_eliminate_b23 N (fn5_eliminate_b5 N g) 25 (nI n) (lI (dt k (fun i => i) (Lap a b W))) (nI k) (lI (GJ (Lap a b W) n k k k)) M := by
      show fn5_eliminate_b5B N (fn5_eliminate_b5 N g) 25 (nI n) _ (nI k) M = _
      unfold fn5_eliminate_b5B
      rw [if_neg (nI_ge (by omega) (by omega))]
      simp only [nk_k, sk25 s, eq_self, decide_true, nk_ck, sr25_0 s, sk26 s, sl26 s, c1, i1, i2, r1, k1, l1, h k kn k (by omega)]
    rw [st]
    unfold fn5_eliminate_b23
    obtain ⟨p1, p2⟩ := lap_pos (a := a) (b := b) (W := W) kn d0
    by_cases z : GJ (Lap a b W) n k k k = 0
    · rw [if_pos ((lg_cmp_eq _ _).mpr ((li_0 (by omega)).mpr z)), p2 (by rw [← ep]; exact z)]
      exact ⟨M, rfl, fs_refl _ _, Int.le_refl _, fun y => absurd rfl y⟩
    · rw [if_neg (fun e => z ((li_0 (by omega)).mp ((lg_cmp_eq _ _).mp e)))]
      obtain ⟨M1, a1, a2, a3⟩ := el_in (N := N) (k5 := fn5_eliminate_b5 N g) hN hn kn (by rw [ed]; omega) hs (by rw [ed]; exact hd) n 0 N M (by omega) (by omega) s (fun r hr => absurd hr (Nat.not_lt_zero r)) (fun r _ hr j hj => h r hr j hj)
      rw [ed] at a1
      have a1' : fn5_eliminate_b35 N (fn5_eliminate_b5 N g) N 25 (nI n) (lI (dt k (fun i => i) (Lap a b W))) (nI k) (lI (GJ (Lap a b W) n k k k)) (0 : Int32) M = _ := a1
      rw [a1', ep]
      rw [ep] at z ps
      obtain ⟨M2, b1, b2, b3, b4⟩ := ih (k + 1) g M1 (by omega) (by omega) (fs_shp a2 s) a3 (by omega) ps
      exact ⟨M2, b1, fs_trans a2 b2, b3, b4⟩
end
