def OK_feed (N : Nat) (Inv : am_Mem → Prop) : Prop := ∀ (M : am_Mem) (x1 x2 x3 x4 x5 : Int32), Inv M → ∃ (v : Int32) (M1 M2 : am_Mem), fn11_feed N M 1 x1 x2 x3 x4 x5 = some (v, M1) ∧ am_K M1 110 = 12 ∧ fn12_feed N M1 110 x1 x2 x3 x4 x5 = some (v, M2) ∧ Inv M2
def OK_text (N : Nat) (Inv : am_Mem → Prop) : Prop := ∀ (M : am_Mem) (x1 : Int32), Inv M → ∃ (v : Int32) (M1 M2 : am_Mem), fn11_text N M 1 x1 = some (v, M1) ∧ am_K M1 110 = 12 ∧ fn12_text N M1 110 x1 = some (v, M2) ∧ Inv M2
def OK_rect (N : Nat) (Inv : am_Mem → Prop) : Prop := ∀ (M : am_Mem) (x1 x2 : Int32), Inv M → ∃ (v : Int32) (M1 M2 : am_Mem), fn11_rect N M 1 x1 x2 = some (v, M1) ∧ am_K M1 110 = 12 ∧ fn12_rect N M1 110 x1 x2 = some (v, M2) ∧ Inv M2
def OK_square (N : Nat) (Inv : am_Mem → Prop) : Prop := ∀ (M : am_Mem) (x1 x2 x3 : Int32), Inv M → ∃ (v w : Int32) (M1 M2 M3 : am_Mem), fnL_square M 1 x1 x2 x3 141 = some (v, M1) ∧ am_K M1 110 = 12 ∧ fn12_square M1 110 x1 x2 x3 = some (w, M2) ∧ am_K M2 110 = 12 ∧ fn12_thrown M2 110 = some (v, M3) ∧ (v = 0 → am_J M3 141 0 = w.toInt64) ∧ Inv M3
def OK_laid (N : Nat) (Inv : am_Mem → Prop) : Prop := ∀ (M : am_Mem) (x1 : Int32), Inv M → ∃ (v : Int32) (M1 M2 : am_Mem), fn11_laid M 1 x1 = some (v, M1) ∧ am_K M1 110 = 12 ∧ fn12_laid M1 110 x1 = some (v, M2) ∧ Inv M2
def OK_area (N : Nat) (Inv : am_Mem → Prop) : Prop := ∀ (M : am_Mem) (x1 : Int32), Inv M → ∃ (v : Int64) (M1 M2 : am_Mem), fn11_area M 1 x1 = some (v, M1) ∧ am_K M1 110 = 12 ∧ fn12_area M1 110 x1 = some (v, M2) ∧ Inv M2
def OK_least (N : Nat) (Inv : am_Mem → Prop) : Prop := ∀ (M : am_Mem) (x1 : Int32), Inv M → ∃ (v : Int32) (M1 M2 : am_Mem), fn11_least N M 1 x1 = some (v, M1) ∧ am_K M1 110 = 12 ∧ fn12_least N M1 110 x1 = some (v, M2) ∧ Inv M2
def OK_print (N : Nat) (Inv : am_Mem → Prop) : Prop := ∀ (M : am_Mem) (x1 : Int32), Inv M → ∃ (v : Int32) (M1 M2 : am_Mem), fn11_print N M 1 x1 = some (v, M1) ∧ am_K M1 110 = 12 ∧ fn12_print N M1 110 x1 = some (v, M2) ∧ Inv M2
def OK_at (N : Nat) (Inv : am_Mem → Prop) : Prop := ∀ (M : am_Mem) (x1 : Int32), Inv M → ∃ (v : Int32) (M1 M2 : am_Mem), fn11_at M 1 x1 = some (v, M1) ∧ am_K M1 110 = 12 ∧ fn12_at M1 110 x1 = some (v, M2) ∧ Inv M2
def OK_groups (N : Nat) (Inv : am_Mem → Prop) : Prop := ∀ (M : am_Mem) (x1 : Int32), Inv M → ∃ (v : Int32) (M1 M2 : am_Mem), fn11_groups N M 1 x1 = some (v, M1) ∧ am_K M1 110 = 12 ∧ fn12_groups N M1 110 x1 = some (v, M2) ∧ Inv M2
def OK_trees (N : Nat) (Inv : am_Mem → Prop) : Prop := ∀ (M : am_Mem) (x1 : Int32), Inv M → ∃ (v : Int64) (M1 M2 : am_Mem), fn11_trees M 1 x1 = some (v, M1) ∧ am_K M1 110 = 12 ∧ fn12_trees M1 110 x1 = some (v, M2) ∧ Inv M2
def OK_current (N : Nat) (Inv : am_Mem → Prop) : Prop := ∀ (M : am_Mem) (x1 x2 : Int32), Inv M → ∃ (v : Int32) (M1 M2 : am_Mem), fn11_current M 1 x1 x2 = some (v, M1) ∧ am_K M1 110 = 12 ∧ fn12_current M1 110 x1 x2 = some (v, M2) ∧ Inv M2
def OK_level (N : Nat) (Inv : am_Mem → Prop) : Prop := ∀ (M : am_Mem) (x1 x2 : Int32), Inv M → ∃ (v : Int32) (M1 M2 : am_Mem), fn11_level M 1 x1 x2 = some (v, M1) ∧ am_K M1 110 = 12 ∧ fn12_level M1 110 x1 x2 = some (v, M2) ∧ Inv M2
def OK_layings (N : Nat) (Inv : am_Mem → Prop) : Prop := ∀ (M : am_Mem) (x1 : Int32), Inv M → ∃ (v : Int32) (M1 M2 : am_Mem), fn11_layings M 1 x1 = some (v, M1) ∧ am_K M1 110 = 12 ∧ fn12_layings M1 110 x1 = some (v, M2) ∧ Inv M2
def OK_lines (N : Nat) (Inv : am_Mem → Prop) : Prop := ∀ (M : am_Mem) (x1 : Int32), Inv M → ∃ (v : Int32) (M1 M2 : am_Mem), fn11_lines N M 1 x1 = some (v, M1) ∧ am_K M1 110 = 12 ∧ fn12_lines N M1 110 x1 = some (v, M2) ∧ Inv M2
def OK_line (N : Nat) (Inv : am_Mem → Prop) : Prop := ∀ (M : am_Mem) (x1 x2 x3 : Int32), Inv M → ∃ (v w : Int32) (M1 M2 M3 : am_Mem), fnL_line N M 1 x1 x2 x3 141 = some (v, M1) ∧ am_K M1 110 = 12 ∧ fn12_line N M1 110 x1 x2 x3 = some (w, M2) ∧ am_K M2 110 = 12 ∧ fn12_thrown M2 110 = some (v, M3) ∧ (v = 0 → am_J M3 141 0 = w.toInt64) ∧ Inv M3
def OK_side (N : Nat) (Inv : am_Mem → Prop) : Prop := ∀ (M : am_Mem) (x1 x2 x3 : Int32), (x3 = 0 ∨ x3 = 1) → Inv M → ∃ (v : Int32) (M1 M2 : am_Mem), fn11_side N M 1 x1 x2 x3 = some (v, M1) ∧ am_K M1 110 = 12 ∧ fn12_side N M1 110 x1 x2 x3 = some (v, M2) ∧ Inv M2
def OK_alike (N : Nat) (Inv : am_Mem → Prop) : Prop := ∀ (M : am_Mem) (x1 x2 : Int32), Inv M → ∃ (v : Int32) (M1 M2 : am_Mem), fn11_alike N M 1 x1 x2 = some (v, M1) ∧ am_K M1 110 = 12 ∧ fn12_alike N M1 110 x1 x2 = some (v, M2) ∧ Inv M2
def OK_join (N : Nat) (Inv : am_Mem → Prop) : Prop := ∀ (M : am_Mem) (x1 x2 x3 : Int32), (x3 = 0 ∨ x3 = 1) → Inv M → ∃ (v : Int32) (M1 M2 : am_Mem), fn11_join N M 1 x1 x2 x3 = some (v, M1) ∧ am_K M1 110 = 12 ∧ fn12_join N M1 110 x1 x2 x3 = some (v, M2) ∧ Inv M2
def OK_grow (N : Nat) (Inv : am_Mem → Prop) : Prop := ∀ (M : am_Mem) (x1 x2 : Int32), (x2 = 0 ∨ x2 = 1) → Inv M → ∃ (v : Int32) (M1 M2 : am_Mem), fn11_grow N M 1 x1 x2 = some (v, M1) ∧ am_K M1 110 = 12 ∧ fn12_grow N M1 110 x1 x2 = some (v, M2) ∧ Inv M2
def OK_turn (N : Nat) (Inv : am_Mem → Prop) : Prop := ∀ (M : am_Mem) (x1 x2 : Int32), Inv M → ∃ (v : Int32) (M1 M2 : am_Mem), fn11_turn N M 1 x1 x2 = some (v, M1) ∧ am_K M1 110 = 12 ∧ fn12_turn N M1 110 x1 x2 = some (v, M2) ∧ Inv M2
def OK_times (N : Nat) (Inv : am_Mem → Prop) : Prop := ∀ (M : am_Mem) (x1 x2 : Int32), Inv M → ∃ (v : Int32) (M1 M2 : am_Mem), fn11_times N M 1 x1 x2 = some (v, M1) ∧ am_K M1 110 = 12 ∧ fn12_times N M1 110 x1 x2 = some (v, M2) ∧ Inv M2
def OK_lessen (N : Nat) (Inv : am_Mem → Prop) : Prop := ∀ (M : am_Mem) (x1 : Int32), Inv M → ∃ (v : Int32) (M1 M2 : am_Mem), fn11_lessen N M 1 x1 = some (v, M1) ∧ am_K M1 110 = 12 ∧ fn12_lessen N M1 110 x1 = some (v, M2) ∧ Inv M2
def OK_undo (N : Nat) (Inv : am_Mem → Prop) : Prop := ∀ (M : am_Mem) , Inv M → ∃ (v : Int32) (M1 M2 : am_Mem), fn11_undo M 1  = some (v, M1) ∧ am_K M1 110 = 12 ∧ fn12_undo M1 110  = some (v, M2) ∧ Inv M2
def OK_keep (N : Nat) (Inv : am_Mem → Prop) : Prop := ∀ (M : am_Mem) (x1 x2 : Int32), (x2 = 0 ∨ x2 = 1) → Inv M → ∃ (v : Int32) (M1 M2 : am_Mem), fn11_keep N M 1 x1 x2 = some (v, M1) ∧ am_K M1 110 = 12 ∧ fn12_keep N M1 110 x1 x2 = some (v, M2) ∧ Inv M2
def OK_count (N : Nat) (Inv : am_Mem → Prop) : Prop := ∀ (M : am_Mem) (x1 : Int32), Inv M → ∃ (v : Int32) (M1 M2 : am_Mem), fn11_count N M 1 x1 = some (v, M1) ∧ am_K M1 110 = 12 ∧ fn12_count N M1 110 x1 = some (v, M2) ∧ Inv M2
def OK_all (N : Nat) (Inv : am_Mem → Prop) : Prop := (∀ M, Inv M → am_K M 1 = 11 ∧ am_K M 141 = 15 ∧ am_L M 141 = 1) ∧ OK_feed N Inv ∧ OK_text N Inv ∧ OK_rect N Inv ∧ OK_square N Inv ∧ OK_laid N Inv ∧ OK_area N Inv ∧ OK_least N Inv ∧ OK_print N Inv ∧ OK_at N Inv ∧ OK_groups N Inv ∧ OK_trees N Inv ∧ OK_current N Inv ∧ OK_level N Inv ∧ OK_layings N Inv ∧ OK_lines N Inv ∧ OK_line N Inv ∧ OK_side N Inv ∧ OK_alike N Inv ∧ OK_join N Inv ∧ OK_grow N Inv ∧ OK_turn N Inv ∧ OK_times N Inv ∧ OK_lessen N Inv ∧ OK_undo N Inv ∧ OK_keep N Inv ∧ OK_count N Inv
theorem lw_in {Ls t : Nat} (j : Nat) (hL : Ls ≤ 3072) (hj : j ≤ 5) (h : 6 * t + 6 ≤ Ls) {x : Int32} (hx : x = nI (6 * t + j)) : am_in x Ls = true := by
  subst hx
  have e := nI_clamp (n := 6 * t + j) (by omega)
  unfold am_in
  rw [Bool.and_eq_true, decide_eq_true_eq, decide_eq_true_eq, e]
  exact ⟨nI_pos (by omega), by omega⟩
theorem lw_add (n j : Nat) : nI n + nI j = nI (n + j) := by
  unfold nI
  exact (Int32.ofNat_add n j).symm
theorem lw_exit {Ls t : Nat} (hL : Ls ≤ 3072) (ht : 6 * t ≤ Ls) : (Int32.ofNat Ls - 6 < nI (6 * t)) ↔ Ls < 6 * t + 6 := by
  have e1 : (Int32.ofNat Ls - 6).toInt = (Ls : Int) - 6 := by
    have h1 : (Int32.ofNat Ls).toInt = (Ls : Int) := nI_toInt (n := Ls) (by omega)
    rw [Int32.toInt_sub, h1, show (6 : Int32).toInt = 6 from rfl]
    rw [Int.bmod_def]
    omega
  rw [Int32.lt_iff_toInt_lt, e1, nI_toInt (by omega)]
  omega
theorem lw_cmp (x : Int64) : lg_cmp x x = 0 := by
  unfold lg_cmp
  simp
theorem lw_ckt {α : Type} {b : Bool} {x : Option α} (h : b = true) : am_ck b x = x := by
  unfold am_ck
  rw [if_pos h]
theorem lw_bd {α β : Type} {x : Option (α × am_Mem)} {f : α → am_Mem → Option β} {v : α} {M : am_Mem} (h : x = some (v, M)) : am_bd x f = f v M := by
  rw [h]
  rfl
theorem lw_kt {M : am_Mem} {r kd : Nat} (h : am_K M r = kd) : am_k M r kd = true := by
  unfold am_k
  rw [h]
  exact beq_self_eq_true kd
set_option maxHeartbeats 4000000 in
set_option maxRecDepth 100000 in
theorem lw_body {N Ls : Nat} {xs : Nat → Int32} {Inv : am_Mem → Prop} (hok : OK_all N Inv) (hL : Ls ≤ 3072) {t : Nat} (hlt : 6 * t + 6 ≤ Ls) {k23 : Nat → Nat → Nat → Int32 → am_Mem → Option (Int32 × am_Mem)} {x4 : Int32} (hx : x4 = nI (6 * t)) {M : am_Mem} (hM : Inv M) : ∃ M2 : am_Mem, Inv M2 ∧ fnL_law_b23B N Ls xs k23 1 110 141 x4 M = k23 1 110 141 (x4 + 6) M2 := by
  obtain ⟨hfix, k_feed, k_text, k_rect, k_square, k_laid, k_area, k_least, k_print, k_at, k_groups, k_trees, k_current, k_level, k_layings, k_lines, k_line, k_side, k_alike, k_join, k_grow, k_turn, k_times, k_lessen, k_undo, k_keep, k_count⟩ := hok
  have hin1 : am_in (x4 + (1 : Int32)) Ls = true := lw_in 1 hL (by decide) hlt (by rw [hx]; exact lw_add _ 1)
  have hin2 : am_in (x4 + (2 : Int32)) Ls = true := lw_in 2 hL (by decide) hlt (by rw [hx]; exact lw_add _ 2)
  have hin3 : am_in (x4 + (3 : Int32)) Ls = true := lw_in 3 hL (by decide) hlt (by rw [hx]; exact lw_add _ 3)
  have hin4 : am_in (x4 + (4 : Int32)) Ls = true := lw_in 4 hL (by decide) hlt (by rw [hx]; exact lw_add _ 4)
  have hin5 : am_in (x4 + (5 : Int32)) Ls = true := lw_in 5 hL (by decide) hlt (by rw [hx]; exact lw_add _ 5)
  have hin0 : am_in x4 Ls = true := lw_in 0 hL (by decide) hlt hx
  have hK := (hfix M hM).1
  unfold fnL_law_b23B
  rw [if_neg (by rw [hx, lw_exit hL (by omega)]; omega), lw_ckt hin0]
  by_cases h0 : xs x4.toNatClampNeg &&& (31 : Int32) = (0 : Int32)
  · obtain ⟨v, M1, M2, e1, g1, e2, e5⟩ := k_feed M (xs (x4 + (1 : Int32)).toNatClampNeg) (xs (x4 + (2 : Int32)).toNatClampNeg) (xs (x4 + (3 : Int32)).toNatClampNeg) (xs (x4 + (4 : Int32)).toNatClampNeg) (xs (x4 + (5 : Int32)).toNatClampNeg) hM
    refine ⟨M2, e5, ?_⟩
    rw [if_pos h0]
    simp only [hin1, hin2, hin3, hin4, hin5, lw_ckt, lw_kt hK, lw_bd e1, lw_kt g1, lw_bd e2, fnL_law_b1166, if_true]
  rw [if_neg h0]
  by_cases h1 : xs x4.toNatClampNeg &&& (31 : Int32) = (1 : Int32)
  · obtain ⟨v, M1, M2, e1, g1, e2, e5⟩ := k_text M (xs (x4 + (1 : Int32)).toNatClampNeg) hM
    refine ⟨M2, e5, ?_⟩
    rw [if_pos h1]
    simp only [hin1, hin2, hin3, hin4, hin5, lw_ckt, lw_kt hK, lw_bd e1, lw_kt g1, lw_bd e2, fnL_law_b1166, if_true]
  rw [if_neg h1]
  by_cases h2 : xs x4.toNatClampNeg &&& (31 : Int32) = (2 : Int32)
  · obtain ⟨v, M1, M2, e1, g1, e2, e5⟩ := k_rect M (xs (x4 + (1 : Int32)).toNatClampNeg) (xs (x4 + (2 : Int32)).toNatClampNeg) hM
    refine ⟨M2, e5, ?_⟩
    rw [if_pos h2]
    simp only [hin1, hin2, hin3, hin4, hin5, lw_ckt, lw_kt hK, lw_bd e1, lw_kt g1, lw_bd e2, fnL_law_b1166, if_true]
  rw [if_neg h2]
  by_cases h3 : xs x4.toNatClampNeg &&& (31 : Int32) = (3 : Int32)
  · obtain ⟨v, w, M1, M2, M3, e1, g1, e2, g2, e3, e4, e5⟩ := k_square M (xs (x4 + (1 : Int32)).toNatClampNeg) (xs (x4 + (2 : Int32)).toNatClampNeg) (xs (x4 + (3 : Int32)).toNatClampNeg) hM
    refine ⟨M3, e5, ?_⟩
    rw [if_pos h3]
    simp only [hin1, hin2, hin3, lw_ckt, lw_kt hK, lw_bd e1, lw_kt g1, lw_bd e2, lw_kt g2, lw_bd e3, if_pos]
    by_cases hv : v = 0
    · simp [hv, e4 hv, lw_ckt, lw_kt (hfix M3 e5).2.1, am_in, (hfix M3 e5).2.2, lw_cmp, fnL_law_b372, fnL_law_b753, fnL_law_b1166]
    · simp [hv, fnL_law_b372, fnL_law_b753, fnL_law_b1166]
  rw [if_neg h3]
  by_cases h4 : xs x4.toNatClampNeg &&& (31 : Int32) = (4 : Int32)
  · obtain ⟨v, M1, M2, e1, g1, e2, e5⟩ := k_laid M (xs (x4 + (1 : Int32)).toNatClampNeg) hM
    refine ⟨M2, e5, ?_⟩
    rw [if_pos h4]
    simp only [hin1, hin2, hin3, hin4, hin5, lw_ckt, lw_kt hK, lw_bd e1, lw_kt g1, lw_bd e2, fnL_law_b1166, if_true]
  rw [if_neg h4]
  by_cases h5 : xs x4.toNatClampNeg &&& (31 : Int32) = (5 : Int32)
  · obtain ⟨v, M1, M2, e1, g1, e2, e5⟩ := k_area M (xs (x4 + (1 : Int32)).toNatClampNeg) hM
    refine ⟨M2, e5, ?_⟩
    rw [if_pos h5]
    simp only [hin1, hin2, hin3, hin4, hin5, lw_ckt, lw_kt hK, lw_bd e1, lw_kt g1, lw_bd e2, lw_cmp, fnL_law_b1166, if_true]
  rw [if_neg h5]
  by_cases h6 : xs x4.toNatClampNeg &&& (31 : Int32) = (6 : Int32)
  · obtain ⟨v, M1, M2, e1, g1, e2, e5⟩ := k_least M (xs (x4 + (1 : Int32)).toNatClampNeg) hM
    refine ⟨M2, e5, ?_⟩
    rw [if_pos h6]
    simp only [hin1, hin2, hin3, hin4, hin5, lw_ckt, lw_kt hK, lw_bd e1, lw_kt g1, lw_bd e2, fnL_law_b1166, if_true]
  rw [if_neg h6]
  by_cases h7 : xs x4.toNatClampNeg &&& (31 : Int32) = (7 : Int32)
  · obtain ⟨v, M1, M2, e1, g1, e2, e5⟩ := k_print M (xs (x4 + (1 : Int32)).toNatClampNeg) hM
    refine ⟨M2, e5, ?_⟩
    rw [if_pos h7]
    simp only [hin1, hin2, hin3, hin4, hin5, lw_ckt, lw_kt hK, lw_bd e1, lw_kt g1, lw_bd e2, fnL_law_b1166, if_true]
  rw [if_neg h7]
  by_cases h8 : xs x4.toNatClampNeg &&& (31 : Int32) = (8 : Int32)
  · obtain ⟨v, M1, M2, e1, g1, e2, e5⟩ := k_at M (xs (x4 + (1 : Int32)).toNatClampNeg) hM
    refine ⟨M2, e5, ?_⟩
    rw [if_pos h8]
    simp only [hin1, hin2, hin3, hin4, hin5, lw_ckt, lw_kt hK, lw_bd e1, lw_kt g1, lw_bd e2, fnL_law_b1166, if_true]
  rw [if_neg h8]
  by_cases h9 : xs x4.toNatClampNeg &&& (31 : Int32) = (9 : Int32)
  · obtain ⟨v, M1, M2, e1, g1, e2, e5⟩ := k_groups M (xs (x4 + (1 : Int32)).toNatClampNeg) hM
    refine ⟨M2, e5, ?_⟩
    rw [if_pos h9]
    simp only [hin1, hin2, hin3, hin4, hin5, lw_ckt, lw_kt hK, lw_bd e1, lw_kt g1, lw_bd e2, fnL_law_b1166, if_true]
  rw [if_neg h9]
  by_cases h10 : xs x4.toNatClampNeg &&& (31 : Int32) = (10 : Int32)
  · obtain ⟨v, M1, M2, e1, g1, e2, e5⟩ := k_trees M (xs (x4 + (1 : Int32)).toNatClampNeg) hM
    refine ⟨M2, e5, ?_⟩
    rw [if_pos h10]
    simp only [hin1, hin2, hin3, hin4, hin5, lw_ckt, lw_kt hK, lw_bd e1, lw_kt g1, lw_bd e2, lw_cmp, fnL_law_b1166, if_true]
  rw [if_neg h10]
  by_cases h11 : xs x4.toNatClampNeg &&& (31 : Int32) = (11 : Int32)
  · obtain ⟨v, M1, M2, e1, g1, e2, e5⟩ := k_current M (xs (x4 + (1 : Int32)).toNatClampNeg) (xs (x4 + (2 : Int32)).toNatClampNeg) hM
    refine ⟨M2, e5, ?_⟩
    rw [if_pos h11]
    simp only [hin1, hin2, hin3, hin4, hin5, lw_ckt, lw_kt hK, lw_bd e1, lw_kt g1, lw_bd e2, fnL_law_b1166, if_true]
  rw [if_neg h11]
  by_cases h12 : xs x4.toNatClampNeg &&& (31 : Int32) = (12 : Int32)
  · obtain ⟨v, M1, M2, e1, g1, e2, e5⟩ := k_level M (xs (x4 + (1 : Int32)).toNatClampNeg) (xs (x4 + (2 : Int32)).toNatClampNeg) hM
    refine ⟨M2, e5, ?_⟩
    rw [if_pos h12]
    simp only [hin1, hin2, hin3, hin4, hin5, lw_ckt, lw_kt hK, lw_bd e1, lw_kt g1, lw_bd e2, fnL_law_b1166, if_true]
  rw [if_neg h12]
  by_cases h13 : xs x4.toNatClampNeg &&& (31 : Int32) = (13 : Int32)
  · obtain ⟨v, M1, M2, e1, g1, e2, e5⟩ := k_layings M (xs (x4 + (1 : Int32)).toNatClampNeg) hM
    refine ⟨M2, e5, ?_⟩
    rw [if_pos h13]
    simp only [hin1, hin2, hin3, hin4, hin5, lw_ckt, lw_kt hK, lw_bd e1, lw_kt g1, lw_bd e2, fnL_law_b1166, if_true]
  rw [if_neg h13]
  by_cases h14 : xs x4.toNatClampNeg &&& (31 : Int32) = (14 : Int32)
  · obtain ⟨v, M1, M2, e1, g1, e2, e5⟩ := k_lines M (xs (x4 + (1 : Int32)).toNatClampNeg) hM
    refine ⟨M2, e5, ?_⟩
    rw [if_pos h14]
    simp only [hin1, hin2, hin3, hin4, hin5, lw_ckt, lw_kt hK, lw_bd e1, lw_kt g1, lw_bd e2, fnL_law_b1166, if_true]
  rw [if_neg h14]
  by_cases h15 : xs x4.toNatClampNeg &&& (31 : Int32) = (15 : Int32)
  · obtain ⟨v, w, M1, M2, M3, e1, g1, e2, g2, e3, e4, e5⟩ := k_line M (xs (x4 + (1 : Int32)).toNatClampNeg) (xs (x4 + (2 : Int32)).toNatClampNeg) (xs (x4 + (3 : Int32)).toNatClampNeg) hM
    refine ⟨M3, e5, ?_⟩
    rw [if_pos h15]
    simp only [hin1, hin2, hin3, lw_ckt, lw_kt hK, lw_bd e1, lw_kt g1, lw_bd e2, lw_kt g2, lw_bd e3, if_pos]
    by_cases hv : v = 0
    · simp [hv, e4 hv, lw_ckt, lw_kt (hfix M3 e5).2.1, am_in, (hfix M3 e5).2.2, lw_cmp, fnL_law_b372, fnL_law_b753, fnL_law_b1166]
    · simp [hv, fnL_law_b372, fnL_law_b753, fnL_law_b1166]
  rw [if_neg h15]
  by_cases h16 : xs x4.toNatClampNeg &&& (31 : Int32) = (16 : Int32)
  · rw [if_pos h16]
    by_cases hb : (xs (x4 + (3 : Int32)).toNatClampNeg) = 0
    · obtain ⟨v, M1, M2, e1, g1, e2, e5⟩ := k_side M (xs (x4 + (1 : Int32)).toNatClampNeg) (xs (x4 + (2 : Int32)).toNatClampNeg) 0 (Or.inl rfl) hM
      refine ⟨M2, e5, ?_⟩
      simp only [hin1, hin2, hin3, lw_ckt, if_pos hb, fnL_law_b783, fnL_law_b813, lw_kt hK, lw_bd e1, lw_kt g1, lw_bd e2, fnL_law_b1166, if_true]
    · obtain ⟨v, M1, M2, e1, g1, e2, e5⟩ := k_side M (xs (x4 + (1 : Int32)).toNatClampNeg) (xs (x4 + (2 : Int32)).toNatClampNeg) 1 (Or.inr rfl) hM
      refine ⟨M2, e5, ?_⟩
      simp only [hin1, hin2, hin3, lw_ckt, if_neg hb, fnL_law_b783, fnL_law_b813, lw_kt hK, lw_bd e1, lw_kt g1, lw_bd e2, fnL_law_b1166, if_true]
  rw [if_neg h16]
  by_cases h17 : xs x4.toNatClampNeg &&& (31 : Int32) = (17 : Int32)
  · obtain ⟨v, M1, M2, e1, g1, e2, e5⟩ := k_alike M (xs (x4 + (1 : Int32)).toNatClampNeg) (xs (x4 + (2 : Int32)).toNatClampNeg) hM
    refine ⟨M2, e5, ?_⟩
    rw [if_pos h17]
    simp only [hin1, hin2, hin3, hin4, hin5, lw_ckt, lw_kt hK, lw_bd e1, lw_kt g1, lw_bd e2, fnL_law_b1166, if_true]
  rw [if_neg h17]
  by_cases h18 : xs x4.toNatClampNeg &&& (31 : Int32) = (18 : Int32)
  · rw [if_pos h18]
    by_cases hb : (xs (x4 + (3 : Int32)).toNatClampNeg) = 0
    · obtain ⟨v, M1, M2, e1, g1, e2, e5⟩ := k_join M (xs (x4 + (1 : Int32)).toNatClampNeg) (xs (x4 + (2 : Int32)).toNatClampNeg) 0 (Or.inl rfl) hM
      refine ⟨M2, e5, ?_⟩
      simp only [hin1, hin2, hin3, lw_ckt, if_pos hb, fnL_law_b885, fnL_law_b915, lw_kt hK, lw_bd e1, lw_kt g1, lw_bd e2, fnL_law_b1166, if_true]
    · obtain ⟨v, M1, M2, e1, g1, e2, e5⟩ := k_join M (xs (x4 + (1 : Int32)).toNatClampNeg) (xs (x4 + (2 : Int32)).toNatClampNeg) 1 (Or.inr rfl) hM
      refine ⟨M2, e5, ?_⟩
      simp only [hin1, hin2, hin3, lw_ckt, if_neg hb, fnL_law_b885, fnL_law_b915, lw_kt hK, lw_bd e1, lw_kt g1, lw_bd e2, fnL_law_b1166, if_true]
  rw [if_neg h18]
  by_cases h19 : xs x4.toNatClampNeg &&& (31 : Int32) = (19 : Int32)
  · rw [if_pos h19]
    by_cases hb : (xs (x4 + (2 : Int32)).toNatClampNeg) = 0
    · obtain ⟨v, M1, M2, e1, g1, e2, e5⟩ := k_grow M (xs (x4 + (1 : Int32)).toNatClampNeg) 0 (Or.inl rfl) hM
      refine ⟨M2, e5, ?_⟩
      simp only [hin1, hin2, hin3, lw_ckt, if_pos hb, fnL_law_b944, fnL_law_b968, lw_kt hK, lw_bd e1, lw_kt g1, lw_bd e2, fnL_law_b1166, if_true]
    · obtain ⟨v, M1, M2, e1, g1, e2, e5⟩ := k_grow M (xs (x4 + (1 : Int32)).toNatClampNeg) 1 (Or.inr rfl) hM
      refine ⟨M2, e5, ?_⟩
      simp only [hin1, hin2, hin3, lw_ckt, if_neg hb, fnL_law_b944, fnL_law_b968, lw_kt hK, lw_bd e1, lw_kt g1, lw_bd e2, fnL_law_b1166, if_true]
  rw [if_neg h19]
  by_cases h20 : xs x4.toNatClampNeg &&& (31 : Int32) = (20 : Int32)
  · obtain ⟨v, M1, M2, e1, g1, e2, e5⟩ := k_turn M (xs (x4 + (1 : Int32)).toNatClampNeg) (xs (x4 + (2 : Int32)).toNatClampNeg) hM
    refine ⟨M2, e5, ?_⟩
    rw [if_pos h20]
    simp only [hin1, hin2, hin3, hin4, hin5, lw_ckt, lw_kt hK, lw_bd e1, lw_kt g1, lw_bd e2, fnL_law_b1166, if_true]
  rw [if_neg h20]
  by_cases h21 : xs x4.toNatClampNeg &&& (31 : Int32) = (21 : Int32)
  · obtain ⟨v, M1, M2, e1, g1, e2, e5⟩ := k_times M (xs (x4 + (1 : Int32)).toNatClampNeg) (xs (x4 + (2 : Int32)).toNatClampNeg) hM
    refine ⟨M2, e5, ?_⟩
    rw [if_pos h21]
    simp only [hin1, hin2, hin3, hin4, hin5, lw_ckt, lw_kt hK, lw_bd e1, lw_kt g1, lw_bd e2, fnL_law_b1166, if_true]
  rw [if_neg h21]
  by_cases h22 : xs x4.toNatClampNeg &&& (31 : Int32) = (22 : Int32)
  · obtain ⟨v, M1, M2, e1, g1, e2, e5⟩ := k_lessen M (xs (x4 + (1 : Int32)).toNatClampNeg) hM
    refine ⟨M2, e5, ?_⟩
    rw [if_pos h22]
    simp only [hin1, hin2, hin3, hin4, hin5, lw_ckt, lw_kt hK, lw_bd e1, lw_kt g1, lw_bd e2, fnL_law_b1166, if_true]
  rw [if_neg h22]
  by_cases h23 : xs x4.toNatClampNeg &&& (31 : Int32) = (23 : Int32)
  · obtain ⟨v, M1, M2, e1, g1, e2, e5⟩ := k_undo M  hM
    refine ⟨M2, e5, ?_⟩
    rw [if_pos h23]
    simp only [hin1, hin2, hin3, hin4, hin5, lw_ckt, lw_kt hK, lw_bd e1, lw_kt g1, lw_bd e2, fnL_law_b1166, if_true]
  rw [if_neg h23]
  by_cases h24 : xs x4.toNatClampNeg &&& (31 : Int32) = (24 : Int32)
  · rw [if_pos h24]
    by_cases hb : (xs (x4 + (2 : Int32)).toNatClampNeg) = 0
    · obtain ⟨v, M1, M2, e1, g1, e2, e5⟩ := k_keep M (xs (x4 + (1 : Int32)).toNatClampNeg) 0 (Or.inl rfl) hM
      refine ⟨M2, e5, ?_⟩
      simp only [hin1, hin2, hin3, lw_ckt, if_pos hb, fnL_law_b1109, fnL_law_b1133, lw_kt hK, lw_bd e1, lw_kt g1, lw_bd e2, fnL_law_b1166, if_true]
    · obtain ⟨v, M1, M2, e1, g1, e2, e5⟩ := k_keep M (xs (x4 + (1 : Int32)).toNatClampNeg) 1 (Or.inr rfl) hM
      refine ⟨M2, e5, ?_⟩
      simp only [hin1, hin2, hin3, lw_ckt, if_neg hb, fnL_law_b1109, fnL_law_b1133, lw_kt hK, lw_bd e1, lw_kt g1, lw_bd e2, fnL_law_b1166, if_true]
  rw [if_neg h24]
  by_cases h25 : xs x4.toNatClampNeg &&& (31 : Int32) = (25 : Int32)
  · obtain ⟨v, M1, M2, e1, g1, e2, e5⟩ := k_count M (xs (x4 + (1 : Int32)).toNatClampNeg) hM
    refine ⟨M2, e5, ?_⟩
    rw [if_pos h25]
    simp only [hin1, hin2, hin3, hin4, hin5, lw_ckt, lw_kt hK, lw_bd e1, lw_kt g1, lw_bd e2, fnL_law_b1166, if_true]
  rw [if_neg h25]
  exact ⟨M, hM, rfl⟩
theorem lw_loop {N Ls : Nat} {xs : Nat → Int32} {Inv : am_Mem → Prop} (hok : OK_all N Inv) (hL : Ls ≤ 3072) : ∀ (i t : Nat) (M : am_Mem), 6 * t ≤ Ls → 513 ≤ i + t → Inv M → ∃ M' : am_Mem, fnL_law_b23 N Ls xs i 1 110 141 (nI (6 * t)) M = some (1, M') := by
  intro i
  induction i with
  | zero => intro t M h1 h2 _; omega
  | succ i ih =>
    intro t M h1 h2 hM
    show ∃ M' : am_Mem, fnL_law_b23B N Ls xs (fnL_law_b23 N Ls xs i) 1 110 141 (nI (6 * t)) M = some (1, M')
    by_cases hlt : 6 * t + 6 ≤ Ls
    · obtain ⟨M2, hM2, e⟩ := lw_body hok hL hlt (k23 := fnL_law_b23 N Ls xs i) (xs := xs) rfl hM
      rw [e, show nI (6 * t) + 6 = nI (6 * (t + 1)) from (lw_add (6 * t) 6).trans (by rw [show 6 * (t + 1) = 6 * t + 6 by omega])]
      exact ih (t + 1) M2 (by omega) (by omega) hM2
    · unfold fnL_law_b23B
      rw [if_pos ((lw_exit hL h1).mpr (by omega))]
      exact ⟨M, rfl⟩
