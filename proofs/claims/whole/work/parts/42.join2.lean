theorem geo_appR {W1 W2 H : Int32} {K1 K2 : List Sq} (g1 : Geo W1.toInt H.toInt K1) (g2 : Geo W2.toInt H.toInt K2) (hl : K1.length + K2.length ≤ 40) (hb : W1.toInt + W2.toInt ≤ 1000000000) : Geo (W1 + W2).toInt H.toInt (K1 ++ K2.map (fun q => (W1 + q.1, q.2.1, q.2.2))) := by
  have p1 := geo_pos g1
  have p2 := geo_pos g2
  have g20 := g2
  rw [geo_Z] at g1 g2 ⊢
  obtain ⟨a1, a2, a3, a4, a5⟩ := g1
  obtain ⟨b1, b2, b3, b4, b5⟩ := g2
  rw [i32_add (by omega) (by omega)]
  refine ⟨by rw [List.length_append]; omega, by rw [List.length_append, List.length_map]; exact hl, hb, a4, ?_⟩
  rw [List.map_append]
  have e : (K2.map (fun q => (W1 + q.1, q.2.1, q.2.2))).map toZ = (K2.map toZ).map (fun q => (q.1 + W1.toInt, q.2.1, q.2.2)) := by
    rw [List.map_map, List.map_map]
    refine List.map_congr_left (fun q hq => ?_)
    have := g20.2.2.2.2.1 q hq
    unfold sqIn at this
    show ((W1 + q.1).toInt, q.2.1.toInt, q.2.2.toInt) = (q.1.toInt + W1.toInt, q.2.1.toInt, q.2.2.toInt)
    rw [i32_add (by omega) (by omega), Int.add_comm]
  rw [e]
  exact geoZ_right (by omega) (by omega) a5 b5
theorem geo_appB {W H1 H2 : Int32} {K1 K2 : List Sq} (g1 : Geo W.toInt H1.toInt K1) (g2 : Geo W.toInt H2.toInt K2) (hl : K1.length + K2.length ≤ 40) (hb : H1.toInt + H2.toInt ≤ 1000000000) : Geo W.toInt (H1 + H2).toInt (K1 ++ K2.map (fun q => (q.1, H1 + q.2.1, q.2.2))) := by
  have p1 := geo_pos g1
  have p2 := geo_pos g2
  have g20 := g2
  rw [geo_Z] at g1 g2 ⊢
  obtain ⟨a1, a2, a3, a4, a5⟩ := g1
  obtain ⟨b1, b2, b3, b4, b5⟩ := g2
  rw [i32_add (a := H1) (b := H2) (by omega) (by omega)]
  refine ⟨by rw [List.length_append]; omega, by rw [List.length_append, List.length_map]; exact hl, a3, hb, ?_⟩
  rw [List.map_append]
  have e : (K2.map (fun q => (q.1, H1 + q.2.1, q.2.2))).map toZ = (K2.map toZ).map (fun q => (q.1, q.2.1 + H1.toInt, q.2.2)) := by
    rw [List.map_map, List.map_map]
    refine List.map_congr_left (fun q hq => ?_)
    have := g20.2.2.2.2.1 q hq
    unfold sqIn at this
    show (q.1.toInt, (H1 + q.2.1).toInt, q.2.2.toInt) = (q.1.toInt, q.2.1.toInt + H1.toInt, q.2.2.toInt)
    rw [i32_add (by omega) (by omega), Int.add_comm]
  rw [e]
  exact geoZ_below (by omega) (by omega) a5 b5
/-- the sides' factors -/
theorem jn_fac {a b : Nat} (ha : 1 ≤ a) (hb : 1 ≤ b) : 1 ≤ Nat.gcd a b ∧ 1 ≤ b / Nat.gcd a b ∧ 1 ≤ a / Nat.gcd a b ∧ a * (b / Nat.gcd a b) = b * (a / Nat.gcd a b) := by
  have h0 : 0 < Nat.gcd a b := Nat.gcd_pos_of_pos_left _ (by omega)
  have d1 := Nat.gcd_dvd_left a b
  have d2 := Nat.gcd_dvd_right a b
  refine ⟨h0, (Nat.one_le_div_iff h0).mpr (Nat.le_of_dvd (by omega) d2), (Nat.one_le_div_iff h0).mpr (Nat.le_of_dvd (by omega) d1), ?_⟩
  rw [← Nat.mul_div_assoc a d2, ← Nat.mul_div_assoc b d1, Nat.mul_comm]
theorem cm_2 {N : Nat} (hN : 100000 ≤ N) (M : am_Mem) {a b : Nat} (ha : a < 2 ^ 31) (hb : b < 2 ^ 31) : fn12_common N M (nI a).toInt64 (nI b).toInt64 = some (lN (Nat.gcd a b), M) := by
  rw [nI_l ha]
  exact cm_nI hN M ha hb
section
variable {M : am_Mem} {told m : Nat} {D : Nat → Rc}
theorem jn_m {N : Nat} (hN : 100000 ≤ N) (mi : ModI (am_wI M 110 0 0) m D) (k110 : am_K M 110 = 12) {i o : Nat} (hi : i < m) (ho : o < m) (fi : (D i).1 = 0) (fo : (D o).1 = 0) (hm : m < 12) (h40 : (D i).2.2.2.length + (D o).2.2.2.length ≤ 40) {x3 : Int32} (h3 : x3 = 0 ∨ x3 = 1) {a b : Nat} (ha1 : 1 ≤ a) (hb1 : 1 ≤ b) (ha : a < 2 ^ 31) (hb : b < 2 ^ 31)
    (ea : (if x3 = 0 then (D i).2.2.1 else (D i).2.1) = nI a) (eb : (if x3 = 0 then (D o).2.2.1 else (D o).2.1) = nI b) :
    fn12_join N M 110 (nI i) (nI o) x3 = fn12_join_b180 N 110 (nI i) (nI o) x3 (lN (b / Nat.gcd a b)) (lN (a / Nat.gcd a b))
      (if x3 = 0 then (D i).2.1.toInt64 * lN (b / Nat.gcd a b) + (D o).2.1.toInt64 * lN (a / Nat.gcd a b) else (D i).2.1.toInt64 * lN (b / Nat.gcd a b))
      (if x3 = 0 then (D i).2.2.1.toInt64 * lN (b / Nat.gcd a b) else (D i).2.2.1.toInt64 * lN (b / Nat.gcd a b) + (D o).2.2.1.toInt64 * lN (a / Nat.gcd a b)) (am_wI M 110 0 0) := by
  obtain ⟨g1, g2, g3, g4⟩ := jn_fac ha1 hb1
  have gl : Nat.gcd a b < 2 ^ 31 := Nat.lt_of_le_of_lt (Nat.gcd_le_left b (by omega)) ha
  have hz : ¬ lN (Nat.gcd a b) = 0 := fun e => by
    have := (pk_lEQ (a := Nat.gcd a b) (b := 0) (by omega) (by decide)).mp e
    omega
  have c40 : nI (D i).2.2.2.length + nI (D o).2.2.2.length ≤ 40 := by rw [nI_add]; exact nI_le (b := 40) h40 (by decide)
  have db : (nI b).toInt64 / lN (Nat.gcd a b) = lN (b / Nat.gcd a b) := by rw [nI_l hb]; exact pk_lDiv (by omega) (by omega) (by omega)
  have da : (nI a).toInt64 / lN (Nat.gcd a b) = lN (a / Nat.gcd a b) := by rw [nI_l ha]; exact pk_lDiv (by omega) (by omega) (by omega)
  have dz : decide (¬ lN (Nat.gcd a b) = 0) = true := decide_eq_true hz
  have s := mi.1
  unfold fn12_join fn12_join_b0
  rw [nk_k, k110, nk_dd, mw_can mi hi fi hm, nk_bd, if_neg z_1, nk_k, sk110 s, nk_dd, mw_can mi ho fo hm, nk_bd, if_neg z_1, nk_k, sk110 s, nk_dd, mw_n mi hi, nk_bd, nk_k, sk110 s, nk_dd, mw_n mi ho, nk_bd, if_pos c40]
  rcases h3 with rfl | rfl
  · rw [if_pos rfl] at ea eb
    rw [if_pos rfl, if_pos rfl, if_pos rfl]
    unfold fn12_join_b52 fn12_join_b68 fn12_join_b92 fn12_join_b100 fn12_join_b138 fn12_join_b140 fn12_join_b178
    simp only [nk_k, sk110 s, eq_self, decide_true, nk_ck, if_true, mw_h mi hi, mw_h mi ho, mw_w mi hi, mw_w mi ho, nk_bd, ea, eb, cm_2 hN _ ha hb, dz, db, da, Int64.mul_comm (lN _)]
  · rw [if_neg z_1] at ea eb
    rw [if_neg z_1, if_neg z_1, if_neg z_1]
    unfold fn12_join_b52 fn12_join_b68 fn12_join_b92 fn12_join_b100 fn12_join_b138 fn12_join_b140 fn12_join_b178
    simp only [nk_k, sk110 s, eq_self, decide_true, nk_ck, z_1, if_false, mw_h mi hi, mw_h mi ho, mw_w mi hi, mw_w mi ho, nk_bd, ea, eb, cm_2 hN _ ha hb, dz, db, da, Int64.mul_comm (lN _)]
theorem jn_c {N : Nat} (hN : 100000 ≤ N) (h : InvAt M told m D) {i o : Nat} (hi : i < m) (ho : o < m) (fi : (D i).1 = 0) (fo : (D o).1 = 0) (hm : m < 12) (h40 : (D i).2.2.2.length + (D o).2.2.2.length ≤ 40) {x3 : Int32} (h3 : x3 = 0 ∨ x3 = 1) {a b : Nat} (ha1 : 1 ≤ a) (hb1 : 1 ≤ b) (ha : a < 2 ^ 31) (hb : b < 2 ^ 31)
    (ea : (if x3 = 0 then (D i).2.2.1 else (D i).2.1) = nI a) (eb : (if x3 = 0 then (D o).2.2.1 else (D o).2.1) = nI b) :
    fn11_join N M 1 (nI i) (nI o) x3 = fn11_join_b180 N (if x3 = 0 then (D i).2.2.1.toInt64 * lN (b / Nat.gcd a b) else (D i).2.2.1.toInt64 * lN (b / Nat.gcd a b) + (D o).2.2.1.toInt64 * lN (a / Nat.gcd a b)) 1 x3 (am_R M 105 i) (am_R M 105 o) (nI (b / Nat.gcd a b)) (nI (a / Nat.gcd a b))
      ((D i).2.1.toInt64 * lN (b / Nat.gcd a b)) ((D i).2.2.1.toInt64 * lN (b / Nat.gcd a b)) (if x3 = 0 then (D i).2.1.toInt64 * lN (b / Nat.gcd a b) + (D o).2.1.toInt64 * lN (a / Nat.gcd a b) else (D i).2.1.toInt64 * lN (b / Nat.gcd a b)) M := by
  obtain ⟨g1, g2, g3, g4⟩ := jn_fac ha1 hb1
  have gl : Nat.gcd a b < 2 ^ 31 := Nat.lt_of_le_of_lt (Nat.gcd_le_left b (by omega)) ha
  have fl : b / Nat.gcd a b < 2 ^ 31 := Nat.lt_of_le_of_lt (Nat.div_le_self _ _) hb
  have el : a / Nat.gcd a b < 2 ^ 31 := Nat.lt_of_le_of_lt (Nat.div_le_self _ _) ha
  have hz : ¬ nI (Nat.gcd a b) = 0 := nI_ne0 g1 gl
  have c40 : nI (D i).2.2.2.length + nI (D o).2.2.2.length ≤ 40 := by rw [nI_add]; exact nI_le (b := 40) h40 (by decide)
  have db : nI b / nI (Nat.gcd a b) = nI (b / Nat.gcd a b) := pk_div hb g1 gl
  have da : nI a / nI (Nat.gcd a b) = nI (a / Nat.gcd a b) := pk_div ha g1 gl
  have dz : decide (¬ nI (Nat.gcd a b) = 0) = true := decide_eq_true hz
  have s := i_shp h
  have ti := i_til h hi
  have to := i_til h ho
  unfold fn11_join fn11_join_b0
  rw [nk_k, sk1 s, nk_dd, cu_yes h hi fi hm, nk_bd, nk_k, sk1 s, nk_dd, cu_yes h ho fo hm, nk_bd, if_neg (tilr_ne ti), if_neg (tilr_ne to), k_til ti, nk_ck, k_til to, nk_ck, ti.2.1.2.1, to.2.1.2.1, if_pos c40]
  rcases h3 with rfl | rfl
  · rw [if_pos rfl] at ea eb
    rw [if_pos rfl, if_pos rfl, if_pos rfl]
    unfold fn11_join_b59 fn11_join_b61 fn11_join_b78 fn11_join_b80 fn11_join_b103 fn11_join_b110 fn11_join_b122 fn11_join_b134 fn11_join_b156 fn11_join_b158
    simp only [k_til ti, k_til to, nk_ck, if_true, ti.2.1.2.2.1, ti.2.1.2.2.2, to.2.1.2.2.1, to.2.1.2.2.2, ea, eb, gd_ok hN M ha hb, nk_bd, hz, if_false, not_false_eq_true, decide_true, db, da, nI_l fl, nI_l el]
  · rw [if_neg z_1] at ea eb
    rw [if_neg z_1, if_neg z_1, if_neg z_1]
    unfold fn11_join_b59 fn11_join_b61 fn11_join_b78 fn11_join_b80 fn11_join_b103 fn11_join_b110 fn11_join_b122 fn11_join_b134 fn11_join_b156 fn11_join_b158
    simp only [k_til ti, k_til to, nk_ck, z_1, if_false, ti.2.1.2.2.1, ti.2.1.2.2.2, to.2.1.2.2.1, to.2.1.2.2.2, ea, eb, gd_ok hN M ha hb, nk_bd, hz, not_false_eq_true, decide_true, db, da, nI_l fl, nI_l el]
end
