/-- what a copy of a shelf does -/
def CpQ (M M1 : am_Mem) (ra d s m : Nat) : Prop := (am_n M1 = am_n M ∧ am_K M1 = am_K M ∧ am_L M1 = am_L M ∧ am_J M1 = am_J M) ∧ (∀ a, ¬ a = ra → am_I M1 a = am_I M a) ∧ am_I M1 ra 1 = nI m ∧ am_I M1 ra 2 = 1 ∧ (∀ a, ¬ a = d → am_R M1 a = am_R M a) ∧ ∀ i, i < m → am_R M1 d i = am_R M s i
theorem cpq_of {M : am_Mem} {ra d s m : Nat} : CpQ M (cpR (am_wI (am_wI M ra 1 (nI m)) ra 2 1) d s m) ra d s m := by
  refine ⟨⟨rfl, rfl, rfl, rfl⟩, fun a ha => ?_, ?_, ?_, fun a ha => ?_, fun i hi => ?_⟩
  · unfold cpR; rw [rI_sR, rI_ne _ _ _ ha, rI_ne _ _ _ ha]
  · unfold cpR; rw [rI_sR, rI_ix _ _ _ (by decide), rI_eq]
  · unfold cpR; rw [rI_sR, rI_eq]
  · unfold cpR; rw [rR_sRn _ _ ha]; rfl
  · unfold cpR; rw [rR_sR, if_pos hi]; rfl
theorem cpq_shp {M M1 : am_Mem} {ra d s m : Nat} (h : CpQ M M1 ra d s m) (hs : Shp M) (hd : d = 105 ∨ d = 107 ∨ d = 109) : Shp M1 := by
  obtain ⟨⟨h1, h2, h3, h4⟩, h5, h6, h7, h8, h9⟩ := h
  refine ⟨by rw [h1]; exact hs.1, by rw [h2, h3]; exact hs.2.1, fun q hq => ?_⟩
  have := sh_big q hq
  rw [h8 q.1 (by omega)]
  exact hs.2.2 q hq
theorem cpq_dyn {M M1 : am_Mem} {ra d s m : Nat} (h : CpQ M M1 ra d s m) (hr : ra ≤ 141) (hd : d ≤ 141) : Dyn M M1 := by
  obtain ⟨⟨h1, h2, h3, h4⟩, h5, h6, h7, h8, h9⟩ := h
  refine ⟨by omega, fun a ha _ => ⟨by rw [h2], by rw [h3], h8 a (by omega), h5 a (by omega), by rw [h4]⟩⟩
def KsQ (M M2 : am_Mem) (b m : Nat) : Prop := (am_n M2 = am_n M ∧ am_K M2 = am_K M ∧ am_L M2 = am_L M ∧ am_J M2 = am_J M ∧ am_R M2 = am_R M) ∧ (∀ a, ¬ a = 110 → ¬ a = 118 → ¬ a = 119 → ¬ a = 120 → am_I M2 a = am_I M a) ∧ (∀ i, ¬ i = 0 → am_I M2 110 i = am_I M 110 i) ∧ (∀ i, i < 1488 → am_I M2 118 (1488 * b + i) = am_I M 117 i) ∧ (∀ i, ¬ (1488 * b ≤ i ∧ i < 1488 * b + 1488) → am_I M2 118 i = am_I M 118 i) ∧ am_I M2 119 b = nI m ∧ (∀ i, ¬ i = b → am_I M2 119 i = am_I M 119 i) ∧ am_I M2 120 b = 1 ∧ ∀ i, ¬ i = b → am_I M2 120 i = am_I M 120 i
theorem ksq_of {M : am_Mem} {b m : Nat} : KsQ M (am_wI (am_wI (kpS (am_wI M 110 0 0) b 1488) 119 b (nI m)) 120 b 1) b m := by
  refine ⟨⟨rfl, rfl, rfl, rfl, rfl⟩, fun a h1 h2 h3 h4 => ?_, fun i hi => ?_, fun i hi => ?_, fun i hi => ?_, ?_, fun i hi => ?_, ?_, fun i hi => ?_⟩
  · unfold kpS; rw [rI_ne _ _ _ h4, rI_ne _ _ _ h3, rI_sIn _ _ h2, rI_ne _ _ _ h1]
  · unfold kpS; rw [rI_ne _ _ _ (by decide), rI_ne _ _ _ (by decide), rI_sIn _ _ (by decide), rI_ix _ _ _ hi]
  · unfold kpS; rw [rI_ne _ _ _ (by decide), rI_ne _ _ _ (by decide), rI_sI, if_pos (by omega), Nat.add_sub_cancel_left, rI_ne _ _ _ (by decide)]
  · unfold kpS; rw [rI_ne _ _ _ (by decide), rI_ne _ _ _ (by decide), rI_sI, if_neg hi, rI_ne _ _ _ (by decide)]
  · rw [rI_ne _ _ _ (by decide), rI_eq]
  · unfold kpS; rw [rI_ne _ _ _ (by decide), rI_ix _ _ _ hi, rI_sIn _ _ (by decide), rI_ne _ _ _ (by decide)]
  · rw [rI_eq]
  · unfold kpS; rw [rI_ix _ _ _ hi, rI_ne _ _ _ (by decide), rI_sIn _ _ (by decide), rI_ne _ _ _ (by decide)]
def KbQ (M M2 : am_Mem) (b m : Nat) : Prop := (am_n M2 = am_n M ∧ am_K M2 = am_K M ∧ am_L M2 = am_L M ∧ am_J M2 = am_J M ∧ am_R M2 = am_R M) ∧ (∀ a, ¬ a = 110 → ¬ a = 117 → am_I M2 a = am_I M a) ∧ (∀ i, ¬ i = 0 → ¬ i = 18 → ¬ i = 19 → am_I M2 110 i = am_I M 110 i) ∧ (∀ i, i < 1488 → am_I M2 117 i = am_I M 118 (1488 * b + i)) ∧ am_I M2 110 18 = nI m ∧ am_I M2 110 19 = 0
theorem kbq_of {M : am_Mem} {b m : Nat} : KbQ M (am_wI (am_wI (kpB (am_wI M 110 0 0) b 1488) 110 18 (nI m)) 110 19 0) b m := by
  refine ⟨⟨rfl, rfl, rfl, rfl, rfl⟩, fun a h1 h2 => ?_, fun i h1 h2 h3 => ?_, fun i hi => ?_, ?_, ?_⟩
  · unfold kpB; rw [rI_ne _ _ _ h1, rI_ne _ _ _ h1, rI_sIn _ _ h2, rI_ne _ _ _ h1]
  · unfold kpB; rw [rI_ix _ _ _ h3, rI_ix _ _ _ h2, rI_sIn _ _ (by decide), rI_ix _ _ _ h1]
  · unfold kpB; rw [rI_ne _ _ _ (by decide), rI_ne _ _ _ (by decide), rI_sI, if_pos hi, rI_ne _ _ _ (by decide)]
  · rw [rI_ix _ _ _ (by decide), rI_eq]
  · rw [rI_eq]
theorem wi_01 (M : am_Mem) (x : Int32) : fn12_within M x.toInt64 0 1 = some (if 0 ≤ x ∧ x ≤ 1 then 1 else 0, M) := wi_lit M x 0 1
theorem kpS0 (M : am_Mem) (b : Nat) : kpS M b 0 = M := by
  unfold kpS
  have : (fun i => if 1488 * b ≤ i ∧ i < 1488 * b + 0 then am_I M 117 (i - 1488 * b) else am_I M 118 i) = am_I M 118 := by
    funext i
    rw [if_neg (by omega)]
  rw [this, sI_id]
theorem kpB0 (M : am_Mem) (b : Nat) : kpB M b 0 = M := by
  unfold kpB
  have : (fun i => if i < 0 then am_I M 118 (1488 * b + i) else am_I M 117 i) = am_I M 117 := by
    funext i
    rw [if_neg (by omega)]
  rw [this, sI_id]
theorem nI_01 {b : Nat} (hb : b < 2) : 0 ≤ nI b ∧ nI b ≤ 1 := ⟨nI_pos' (by omega), nI_le (b := 1) (by omega) (by decide)⟩
theorem mk_store {N : Nat} (hN : 100000 ≤ N) {M : am_Mem} (hs : Shp M) {b m : Nat} (hb : b < 2) (hm : am_I M 110 18 = nI m) : ∃ M2, fn12_keep N M 110 (nI b) 0 = some (1, M2) ∧ KsQ M M2 b m := by
  refine ⟨_, ?_, ksq_of⟩
  have hk := kp_store (N := N) (M := am_wI M 110 0 0) hs hb ((rI_ix _ _ _ (by decide)).trans hm) 1488 0 N (by omega) (by omega)
  rw [kpS0] at hk
  unfold fn12_keep fn12_keep_b0
  rw [nk_k, sk110 hs, wi_01, if_pos (nI_01 hb), nk_dd, nk_bd]
  simp only [z_1, if_false, if_true]
  unfold fn12_keep_b30
  exact hk
theorem mk_back {N : Nat} (hN : 100000 ≤ N) {M : am_Mem} (hs : Shp M) {b m : Nat} (hb : b < 2) (hm : am_I M 119 b = nI m) (hk1 : am_I M 120 b = 1) : ∃ M2, fn12_keep N M 110 (nI b) 1 = some (1, M2) ∧ KbQ M M2 b m := by
  refine ⟨_, ?_, kbq_of⟩
  have s' : Shp (am_wI M 110 0 0) := hs
  have hk := kp_back (N := N) (M := am_wI M 110 0 0) hs hb ((congrFun (rI_ne M 0 0 (by decide)) b).trans hm) (v := 1) (by decide) 1488 0 N (by omega) (by omega)
  rw [kpB0] at hk
  have hk1' : am_I (am_wI M 110 0 0) 120 b = 1 := (congrFun (rI_ne M 0 0 (by decide)) b).trans hk1
  unfold fn12_keep fn12_keep_b0
  rw [nk_k, sk110 hs, wi_01, if_pos (nI_01 hb), nk_dd, nk_bd]
  simp only [z_1, if_false]
  rw [nk_k, sk110 s', sr110_22 s', nk_k, sk120 s', sl120 s', nk_in (by omega) (by decide), nI_clamp (by omega), hk1', nk_dd, nk_dd, nk_ck]
  simp only [z_1, if_false]
  unfold fn12_keep_b30
  exact hk
theorem mk_no {N : Nat} {M : am_Mem} (hs : Shp M) {b : Nat} (hb : b < 2) (hk1 : am_I M 120 b = 0) : fn12_keep N M 110 (nI b) 1 = some (0, am_wI M 110 0 0) := by
  have s' : Shp (am_wI M 110 0 0) := hs
  have hk1' : am_I (am_wI M 110 0 0) 120 b = 0 := (congrFun (rI_ne M 0 0 (by decide)) b).trans hk1
  unfold fn12_keep fn12_keep_b0
  rw [nk_k, sk110 hs, wi_01, if_pos (nI_01 hb), nk_dd, nk_bd]
  simp only [z_1, if_false]
  rw [nk_k, sk110 s', sr110_22 s', nk_k, sk120 s', sl120 s', nk_in (by omega) (by decide), nI_clamp (by omega), hk1', nk_dd, nk_dd, nk_ck, if_pos rfl]
  rfl
/-- the class's keep, its shelf found -/
theorem ck_store {N : Nat} (hN : 100000 ≤ N) {M : am_Mem} {told m : Nat} {D : Nat → Rc} (h : InvAt M told m D) {b : Nat} (hb : b < 2) : ∃ M1, fn11_keep_b24 N (106 + 2 * b) 1 0 M = some (1, M1) ∧ CpQ M M1 (106 + 2 * b) (107 + 2 * b) 105 m := by
  have s := i_shp h
  refine ⟨_, ?_, cpq_of⟩
  have kk : am_K M (106 + 2 * b) = 9 ∧ am_K M (107 + 2 * b) = 18 ∧ am_L M (107 + 2 * b) = 12 ∧ am_R M (106 + 2 * b) 0 = 107 + 2 * b := by
    have : b = 0 ∨ b = 1 := by omega
    rcases this with rfl | rfl
    · exact ⟨sk106 s, sk107 s, sl107 s, sr106_0 s⟩
    · exact ⟨sk108 s, sk109 s, sl109 s, sr108_0 s⟩
  unfold fn11_keep_b24
  rw [if_neg (by omega), if_pos rfl]
  unfold fn11_keep_b42
  rw [if_pos rfl, nk_k, sk1 s, nk_k, kk.1, sr1_8 s, nk_dd, nk_dd, cp_from hN kk.1 (sk104 s) kk.2.1 (sk105 s) kk.2.2.1 (sl105 s) kk.2.2.2 (sr104_0 s) (by omega) (by omega) (by omega) (i_m h) (i_104 h) (fun i hi => tilr_K (i_til h hi))]
  rfl
theorem ck_back {N : Nat} (hN : 100000 ≤ N) {M : am_Mem} {told w : Nat} {E : Nat → Rc} (s : Shp M) {b : Nat} (hb : b < 2) (q1 : am_I M (106 + 2 * b) 2 = 1) (q3 : ShR M (b + 1) told w E) : ∃ M0, fn11_keep_b24 N (106 + 2 * b) 1 1 M = some (1, am_wI M0 1 11 0) ∧ CpQ M M0 104 105 (107 + 2 * b) w := by
  refine ⟨_, ?_, cpq_of⟩
  have kk : am_K M (106 + 2 * b) = 9 ∧ am_K M (107 + 2 * b) = 18 ∧ am_L M (107 + 2 * b) = 12 ∧ am_R M (106 + 2 * b) 0 = 107 + 2 * b := by
    have : b = 0 ∨ b = 1 := by omega
    rcases this with rfl | rfl
    · exact ⟨sk106 s, sk107 s, sl107 s, sr106_0 s⟩
    · exact ⟨sk108 s, sk109 s, sl109 s, sr108_0 s⟩
  have e1 : 104 + 2 * (b + 1) = 106 + 2 * b := by omega
  have e2 : 105 + 2 * (b + 1) = 107 + 2 * b := by omega
  obtain ⟨g1, g2, g3, g4⟩ := q3
  rw [e1] at g3
  have g5 : ∀ i, i < w → am_K M (am_R M (107 + 2 * b) i) = 10 := fun i hi => by
    have := tilr_K (g4 i hi).1
    rwa [e2] at this
  unfold fn11_keep_b24
  rw [if_neg (by omega), if_neg (by decide), nk_k, kk.1, q1, nk_dd, if_neg (by decide)]
  unfold fn11_keep_b42
  rw [if_neg (by decide), nk_k, sk1 s, sr1_8 s, nk_k, sk104 s, nk_dd, nk_dd, cp_from hN (sk104 s) kk.1 (sk105 s) kk.2.1 (sl105 s) kk.2.2.1 (sr104_0 s) kk.2.2.2 (by omega) (by omega) (by omega) g1 g3 g5, nk_bd, nk_k]
  show am_ck (decide (am_K M 1 = 11)) _ = _
  rw [sk1 s, nk_dd]
  rfl
