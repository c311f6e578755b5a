def bt (c : Int32) : Int32 := c.toInt8.toInt32.toInt8.toInt32
/-- what stands on the page -/
def PgC (M : am_Mem) (P : List Int32) : Prop := am_I M 102 1 = nI P.length ∧ ∀ k, k < P.length → am_I M 103 k = P.getD k 0
def PmC (M : am_Mem) (P : List Int32) : Prop := am_I M 110 42 = nI P.length ∧ ∀ k, k < P.length → am_I M 135 k = P.getD k 0
theorem getD_app {P : List Int32} {c : Int32} {k : Nat} (h : k < P.length) : (P ++ [c]).getD k 0 = P.getD k 0 := by
  rw [List.getD_eq_getElem?_getD, List.getD_eq_getElem?_getD, List.getElem?_append_left h]
theorem getD_last (P : List Int32) (c : Int32) : (P ++ [c]).getD P.length 0 = c := by
  rw [List.getD_eq_getElem?_getD, List.getElem?_append_right (Nat.le_refl _), Nat.sub_self]
  rfl
theorem pg_put {M : am_Mem} {P : List Int32} (s : Shp M) (c : PgC M P) (hl : P.length < 480) (x : Int32) : ∃ M', fn7_put M 102 x = some ((), M') ∧ Fs [102, 103] M M' ∧ PgC M' (P ++ [bt x]) := by
  obtain ⟨c1, c2⟩ := c
  refine ⟨am_wI (am_wI M 103 P.length (bt x)) 102 1 (nI (P.length + 1)), ?_, fs_trans (fs_wI _ _ _ (by decide)) (fs_wI _ _ _ (by decide)), ?_, fun k hk => ?_⟩
  · have hle : ¬ (480 : Int32) ≤ nI P.length := nI_ge (b := 480) hl (by decide)
    unfold fn7_put fn7_put_b0 fn7_put_b31
    rw [nk_k, sk102 s, nk_dd, c1, if_neg hle, sr102_0 s, nk_k, sk103 s, nk_dd, sl103 s, nk_in hl (by decide), nk_ck, nI_clamp (by omega), rI_ne _ _ _ (by decide), c1, nI_1]
    rfl
  · rw [rI_eq, List.length_append]; rfl
  · rw [rI_ne _ _ _ (by decide)]
    rw [List.length_append] at hk
    have hk' : k < P.length + 1 := hk
    by_cases e : k = P.length
    · subst e; rw [rI_eq, getD_last]
    · rw [rI_ix _ _ _ e, getD_app (by omega)]; exact c2 k (by omega)
theorem pm_put {M : am_Mem} {P : List Int32} (s : Shp M) (c : PmC M P) (hl : P.length < 480) (x : Int32) : ∃ M', fn12_prints M 110 x = some ((), M') ∧ Fs [110, 135] M M' ∧ PmC M' (P ++ [bt x]) ∧ ∀ i, ¬ i = 42 → am_I M' 110 i = am_I M 110 i := by
  obtain ⟨c1, c2⟩ := c
  refine ⟨am_wI (am_wI M 135 P.length (bt x)) 110 42 (nI (P.length + 1)), ?_, fs_trans (fs_wI _ _ _ (by decide)) (fs_wI _ _ _ (by decide)), ⟨?_, fun k hk => ?_⟩, fun i hi => ?_⟩
  · unfold fn12_prints fn12_prints_b0
    rw [nk_k, sk110 s, nk_dd, sr110_41 s, nk_k, sk135 s, nk_dd, sl135 s, c1, nk_in (L := 700) (by omega) (by decide), nk_ck, nI_clamp (by omega), rI_ne _ _ _ (by decide), c1, nI_1]
    rfl
  · rw [rI_eq, List.length_append]; rfl
  · rw [rI_ne _ _ _ (by decide)]
    rw [List.length_append] at hk
    have hk' : k < P.length + 1 := hk
    by_cases e : k = P.length
    · subst e; rw [rI_eq, getD_last]
    · rw [rI_ix _ _ _ e, getD_app (by omega)]; exact c2 k (by omega)
  · rw [rI_ix _ _ _ hi, rI_ne _ _ _ (by decide)]
/-- a number's signs -/
def dgC (v p : Nat) : Int32 := bt (nI (48 + v / p % 10))
def dgs (v : Nat) : Nat → List Int32
  | 0 => [dgC v 1]
  | e + 1 => dgC v (10 ^ (e + 1)) :: dgs v e
theorem dgs_len (v : Nat) : ∀ e, (dgs v e).length = e + 1
  | 0 => rfl
  | e + 1 => by
    show (dgs v e).length + 1 = _
    rw [dgs_len v e]
def lgD (v : Nat) : Nat → Nat
  | 0 => 0
  | e + 1 => if 10 ^ (e + 1) ≤ v then e + 1 else lgD v e
theorem lgD_le (v : Nat) : ∀ e, lgD v e ≤ e
  | 0 => Nat.le_refl _
  | e + 1 => by
    unfold lgD
    split
    · exact Nat.le_refl _
    · have := lgD_le v e; omega
theorem p10_le {a b : Nat} (h : a ≤ b) : 10 ^ a ≤ 10 ^ b := Nat.pow_le_pow_right (by decide) h
theorem p10_pos (a : Nat) : 0 < 10 ^ a := Nat.pow_pos (by decide)
theorem p10_9 {e : Nat} (h : e ≤ 9) : 10 ^ e < 2 ^ 31 := Nat.lt_of_le_of_lt (p10_le h) (by decide)
theorem lgD_eq {v e : Nat} (h1 : e = 0 ∨ 10 ^ e ≤ v) (h2 : v < 10 ^ (e + 1)) : ∀ n, e ≤ n → lgD v n = e
  | 0, h => by unfold lgD; omega
  | n + 1, h => by
    unfold lgD
    by_cases e1 : e = n + 1
    · subst e1
      rw [if_pos (h1.resolve_left (by omega))]
    · have := p10_le (show e + 1 ≤ n + 1 by omega)
      rw [if_neg (by omega)]
      exact lgD_eq h1 h2 n (by omega)
theorem dg_ex {v e : Nat} (hv : v < 2 ^ 31) (he : e ≤ 9) : (48 : Int32) + (nI v / nI (10 ^ e) - nI v / nI (10 ^ e) / 10 * 10) = nI (48 + v / 10 ^ e % 10) := by
  rw [pk_div hv (p10_pos e) (p10_9 he)]
  have h1 : v / 10 ^ e < 2 ^ 31 := Nat.lt_of_le_of_lt (Nat.div_le_self _ _) hv
  rw [show nI (v / 10 ^ e) - nI (v / 10 ^ e) / 10 * 10 = nI (v / 10 ^ e % 10) from pk_rem (d := 10) h1 (by decide) (by decide)]
  exact lit_add 48 _
theorem p10_div (e : Nat) (h : e + 1 ≤ 9) : nI (10 ^ (e + 1)) / 10 = nI (10 ^ e) := by
  have := pk_div (a := 10 ^ (e + 1)) (d := 10) (p10_9 h) (by decide) (by decide)
  rw [Nat.pow_succ, Nat.mul_div_cancel _ (by decide)] at this
  rw [Nat.pow_succ]
  exact this
theorem p1_div : nI (10 ^ 0) / 10 = nI 0 := by decide
theorem nz10 {e : Nat} (h : e ≤ 9) : ¬ nI (10 ^ e) = 0 := nI_ne0 (p10_pos e) (p10_9 h)
theorem nle10 {e : Nat} (h : e ≤ 9) : ¬ nI (10 ^ e) ≤ 0 := nI_nle (p10_pos e) (p10_9 h)
theorem pg_dg {N : Nat} {v : Nat} (hv : v < 2 ^ 31) (hv1 : 1 ≤ v) : ∀ e fuel M P, e ≤ 9 → e + 2 ≤ fuel → Shp M → PgC M P → P.length + e < 480 → ∃ M', fn7_putNumber_b3 N fuel 102 (nI v) (nI (10 ^ e)) M = some ((), M') ∧ Fs [102, 103] M M' ∧ PgC M' (P ++ dgs v (lgD v e)) := by
  intro e
  induction e with
  | zero =>
    intro fuel M P he hf s c hl
    obtain ⟨g, rfl⟩ : ∃ g, fuel = g + 1 + 1 := ⟨fuel - 2, by omega⟩
    obtain ⟨M', e1, f1, c1⟩ := pg_put s c (by omega) (nI (48 + v / 10 ^ 0 % 10))
    refine ⟨M', ?_, f1, c1⟩
    show fn7_putNumber_b3B N (fn7_putNumber_b3 N (g + 1)) 102 (nI v) (nI (10 ^ 0)) M = _
    unfold fn7_putNumber_b3B fn7_putNumber_b17 fn7_putNumber_b30 fn7_putNumber_b35
    rw [if_neg (nle10 he), if_pos (nI_le (by rw [Nat.pow_zero]; exact hv1) hv), decide_eq_true (nz10 he), nk_ck, nk_k, sk102 s, nk_dd, dg_ex hv he, e1, nk_bd, p1_div]
    show fn7_putNumber_b3B N (fn7_putNumber_b3 N g) 102 (nI v) (nI 0) M' = _
    unfold fn7_putNumber_b3B
    rw [if_pos (show nI 0 ≤ 0 from by decide)]
  | succ e ih =>
    intro fuel M P he hf s c hl
    obtain ⟨g, rfl⟩ : ∃ g, fuel = g + 1 := ⟨fuel - 1, by omega⟩
    by_cases hle : 10 ^ (e + 1) ≤ v
    · obtain ⟨M1, e1, f1, c1⟩ := pg_put s c (by omega) (nI (48 + v / 10 ^ (e + 1) % 10))
      obtain ⟨M', e2, f2, c2⟩ := ih g M1 _ (by omega) (by omega) (fs_shp f1 s) c1 (by rw [List.length_append]; show P.length + 1 + e < 480; omega)
      refine ⟨M', ?_, fs_trans f1 f2, ?_⟩
      · show fn7_putNumber_b3B N (fn7_putNumber_b3 N g) 102 (nI v) (nI (10 ^ (e + 1))) M = _
        unfold fn7_putNumber_b3B fn7_putNumber_b17 fn7_putNumber_b30 fn7_putNumber_b35
        rw [if_neg (nle10 he), if_pos (nI_le hle hv), decide_eq_true (nz10 he), nk_ck, nk_k, sk102 s, nk_dd, dg_ex hv he, e1, nk_bd, p10_div e he]
        exact e2
      · have el : lgD v (e + 1) = e + 1 := by unfold lgD; rw [if_pos hle]
        have el2 : lgD v e = e := by
          match e with
          | 0 => rfl
          | k + 1 =>
            unfold lgD
            have := p10_le (show k + 1 ≤ k + 1 + 1 by omega)
            rw [if_pos (by omega)]
        rw [el2, List.append_assoc] at c2
        rw [el]
        exact c2
    · obtain ⟨M', e2, f2, c2⟩ := ih g M P (by omega) (by omega) s c (by omega)
      refine ⟨M', ?_, f2, ?_⟩
      · have h1 : ¬ nI (10 ^ (e + 1)) = 1 := fun x => by
          have := (nI_eq (b := 1) (p10_9 he) (by decide)).mp x
          have h2 := p10_le (show 1 ≤ e + 1 by omega)
          omega
        show fn7_putNumber_b3B N (fn7_putNumber_b3 N g) 102 (nI v) (nI (10 ^ (e + 1))) M = _
        unfold fn7_putNumber_b3B fn7_putNumber_b30 fn7_putNumber_b35
        rw [if_neg (nle10 he), if_neg (nI_ge (by omega) (p10_9 he)), if_neg h1, p10_div e he]
        exact e2
      · have el : lgD v (e + 1) = lgD v e := by
          show (if 10 ^ (e + 1) ≤ v then e + 1 else lgD v e) = lgD v e
          rw [if_neg hle]
        rw [el]
        exact c2
theorem pm_dg {N : Nat} {v : Nat} (hv : v < 2 ^ 31) : ∀ e fuel M P, e ≤ 9 → e + 2 ≤ fuel → Shp M → PmC M P → P.length + e < 480 → ∃ M', fn12_printsNumber_b18 N fuel 110 (nI v) (nI (10 ^ e)) M = some ((), M') ∧ Fs [110, 135] M M' ∧ PmC M' (P ++ dgs v e) ∧ ∀ i, ¬ i = 42 → am_I M' 110 i = am_I M 110 i := by
  intro e
  induction e with
  | zero =>
    intro fuel M P he hf s c hl
    obtain ⟨g, rfl⟩ : ∃ g, fuel = g + 1 + 1 := ⟨fuel - 2, by omega⟩
    obtain ⟨M', e1, f1, c1, d1⟩ := pm_put s c (by omega) (nI (48 + v / 10 ^ 0 % 10))
    refine ⟨M', ?_, f1, c1, d1⟩
    show fn12_printsNumber_b18B N (fn12_printsNumber_b18 N (g + 1)) 110 (nI v) (nI (10 ^ 0)) M = _
    unfold fn12_printsNumber_b18B fn12_printsNumber_b40
    rw [if_neg (nle10 he), decide_eq_true (nz10 he), nk_ck, nk_k, sk110 s, nk_dd, dg_ex hv he, e1, nk_bd, p1_div]
    show fn12_printsNumber_b18B N (fn12_printsNumber_b18 N g) 110 (nI v) (nI 0) M' = _
    unfold fn12_printsNumber_b18B
    rw [if_pos (show nI 0 ≤ 0 from by decide)]
  | succ e ih =>
    intro fuel M P he hf s c hl
    obtain ⟨g, rfl⟩ : ∃ g, fuel = g + 1 := ⟨fuel - 1, by omega⟩
    obtain ⟨M1, e1, f1, c1, d1⟩ := pm_put s c (by omega) (nI (48 + v / 10 ^ (e + 1) % 10))
    obtain ⟨M', e2, f2, c2, d2⟩ := ih g M1 _ (by omega) (by omega) (fs_shp f1 s) c1 (by rw [List.length_append]; show P.length + 1 + e < 480; omega)
    refine ⟨M', ?_, fs_trans f1 f2, ?_, fun i hi => (d2 i hi).trans (d1 i hi)⟩
    · show fn12_printsNumber_b18B N (fn12_printsNumber_b18 N g) 110 (nI v) (nI (10 ^ (e + 1))) M = _
      unfold fn12_printsNumber_b18B fn12_printsNumber_b40
      rw [if_neg (nle10 he), decide_eq_true (nz10 he), nk_ck, nk_k, sk110 s, nk_dd, dg_ex hv he, e1, nk_bd, p10_div e he]
      exact e2
    · rw [List.append_assoc] at c2
      exact c2
theorem pm_lg {N : Nat} {v : Nat} {M : am_Mem} (hv : v ≤ 1000000000) : ∀ d e fuel, e + d = 9 → d < fuel → (e = 0 ∨ 10 ^ e ≤ v) → fn12_printsNumber_b2 N fuel 110 (nI v) (nI (10 ^ e)) M = fn12_printsNumber_b18 N N 110 (nI v) (nI (10 ^ (lgD v 9))) M := by
  intro d
  have base : ∀ e g, e ≤ 9 → v / 10 ^ e < 10 → (e = 0 ∨ 10 ^ e ≤ v) → fn12_printsNumber_b2 N (g + 1) 110 (nI v) (nI (10 ^ e)) M = fn12_printsNumber_b18 N N 110 (nI v) (nI (10 ^ (lgD v 9))) M := by
    intro e g he hlt h1
    have h2 : v < 10 ^ (e + 1) := by
      rw [Nat.pow_succ, Nat.mul_comm]
      exact (Nat.div_lt_iff_lt_mul (p10_pos e)).mp hlt
    rw [lgD_eq h1 h2 9 he]
    show fn12_printsNumber_b2B N (fn12_printsNumber_b2 N g) 110 (nI v) (nI (10 ^ e)) M = _
    unfold fn12_printsNumber_b2B
    rw [decide_eq_true (nz10 he), nk_ck, pk_div (by omega) (p10_pos e) (p10_9 he), if_pos (show nI (v / 10 ^ e) < 10 from nI_lt (b := 10) hlt (by decide))]
  induction d with
  | zero =>
    intro e fuel he hf h1
    obtain ⟨g, rfl⟩ : ∃ g, fuel = g + 1 := ⟨fuel - 1, by omega⟩
    have : e = 9 := by omega
    subst this
    exact base 9 g (by omega) (Nat.lt_of_le_of_lt (Nat.div_le_div_right hv) (by decide)) h1
  | succ d ih =>
    intro e fuel he hf h1
    obtain ⟨g, rfl⟩ : ∃ g, fuel = g + 1 := ⟨fuel - 1, by omega⟩
    by_cases hlt : v / 10 ^ e < 10
    · exact base e g (by omega) hlt h1
    · have h2 : 10 ^ (e + 1) ≤ v := by
        rw [Nat.pow_succ, Nat.mul_comm]
        exact (Nat.le_div_iff_mul_le (p10_pos e)).mp (by omega)
      have e9 : e ≤ 9 := by omega
      have hd : v / 10 ^ e < 2 ^ 31 := Nat.lt_of_le_of_lt (Nat.div_le_self _ _) (by omega)
      show fn12_printsNumber_b2B N (fn12_printsNumber_b2 N g) 110 (nI v) (nI (10 ^ e)) M = _
      unfold fn12_printsNumber_b2B fn12_printsNumber_b15
      rw [decide_eq_true (nz10 e9), nk_ck, pk_div (by omega) (p10_pos e) (p10_9 e9), if_neg (show ¬ nI (v / 10 ^ e) < 10 from nI_nlt (b := 10) (by omega) hd)]
      rw [show nI (10 ^ e) * 10 = nI (10 ^ (e + 1)) from by rw [Nat.pow_succ]; exact pk_mul (10 ^ e) 10]
      exact ih (e + 1) g (by omega) (by omega) (Or.inr h2)
