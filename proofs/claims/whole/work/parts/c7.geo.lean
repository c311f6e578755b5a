theorem nI_ti {v : Nat} (h : v < 2147483648) : (nI v).toInt = (v : Int) := nI_toInt (by omega)
/-- squares by natural numbers that make a rectangle up -/
theorem geo_of {S : List Sqn} {W H : Nat} (h1 : 1 ≤ S.length) (h2 : S.length ≤ 40) (hW : W ≤ 1000000000) (hH : H ≤ 1000000000) (hq : ∀ q ∈ S, 1 ≤ q.2.2 ∧ q.1 + q.2.2 ≤ W ∧ q.2.1 + q.2.2 ≤ H) (hd : S.Pairwise djN) (ha : arN S = W * H) (hg : ∀ g : Nat, (∀ q ∈ S, g ∣ q.2.2) → (∀ q ∈ S, g ∣ q.1 ∧ g ∣ q.2.1) ∧ g ∣ W ∧ g ∣ H) : Geo (nI W).toInt (nI H).toInt (S.map sqI) := by
  have ti : ∀ q ∈ S, (sqI q).1.toInt = (q.1 : Int) ∧ (sqI q).2.1.toInt = (q.2.1 : Int) ∧ (sqI q).2.2.toInt = (q.2.2 : Int) := fun q hq' => by
    have := hq q hq'
    exact ⟨nI_ti (by omega), nI_ti (by omega), nI_ti (by omega)⟩
  have eW := nI_ti (v := W) (by omega)
  have eH := nI_ti (v := H) (by omega)
  have ar : ∀ l : List Sqn, (∀ q ∈ l, q ∈ S) → areaOf (l.map sqI) = (arN l : Int) := by
    intro l
    induction l with
    | nil => exact fun _ => rfl
    | cons q l ih =>
      intro hl
      have t := (ti q (hl q List.mem_cons_self)).2.2
      have := ih (fun x hx => hl x (List.mem_cons_of_mem _ hx))
      unfold areaOf arN at *
      rw [List.map_cons, List.map_cons, List.sum_cons, List.map_cons, List.sum_cons, this, t]
      omega
  refine ⟨by rw [List.length_map]; exact h1, by rw [List.length_map]; exact h2, by rw [eW]; omega, by rw [eH]; omega, fun q hq' => ?_, ?_, ?_, fun g gs => ?_⟩
  · obtain ⟨r, hr, e⟩ := List.mem_map.mp hq'
    obtain ⟨t1, t2, t3⟩ := ti r hr
    have := hq r hr
    rw [← e]
    unfold sqIn
    rw [t1, t2, t3, eW, eH]
    omega
  · rw [List.pairwise_map]
    refine hd.imp_of_mem (fun {p q} hp hq' h => ?_)
    obtain ⟨t1, t2, t3⟩ := ti p hp
    obtain ⟨u1, u2, u3⟩ := ti q hq'
    unfold dsj
    rw [t1, t2, t3, u1, u2, u3]
    unfold djN at h
    omega
  · rw [ar S (fun q h => h), ha, eW, eH]
    exact Int.natCast_mul W H
  · have gs' : ∀ q ∈ S, g.natAbs ∣ q.2.2 := fun q hq' => by
      have := gs (sqI q) (List.mem_map.mpr ⟨q, hq', rfl⟩)
      rw [(ti q hq').2.2] at this
      exact Int.ofNat_dvd_right.mp this
    obtain ⟨b1, b2, b3⟩ := hg g.natAbs gs'
    refine ⟨fun q hq' => ?_, ?_, ?_⟩
    · obtain ⟨r, hr, e⟩ := List.mem_map.mp hq'
      obtain ⟨t1, t2, _⟩ := ti r hr
      rw [← e, t1, t2]
      exact ⟨Int.ofNat_dvd_right.mpr (b1 r hr).1, Int.ofNat_dvd_right.mpr (b1 r hr).2⟩
    · rw [eW]; exact Int.ofNat_dvd_right.mpr b2
    · rw [eH]; exact Int.ofNat_dvd_right.mpr b3
section
variable {L : List (Nat × Nat)}
theorem dq_of (W : Nat) : ∀ k, ofF (dF L W) k = (dQ L W k).map sqI
  | 0 => rfl
  | k + 1 => by
    rw [ofF_succ, dq_of W k]
    show _ = (dQ L W k ++ [sqO (dO L W k) (vN L k)]).map sqI
    rw [List.map_append]
    rfl
theorem dq_len (W : Nat) : ∀ k, (dQ L W k).length = k
  | 0 => rfl
  | k + 1 => by
    show (dQ L W k ++ [sqO (dO L W k) (vN L k)]).length = k + 1
    rw [List.length_append, dq_len W k]; rfl
theorem dq_mem (W : Nat) : ∀ k j, j < k → ∃ q ∈ dQ L W k, q.2.2 = vN L j
  | 0, j, h => absurd h (Nat.not_lt_zero j)
  | k + 1, j, h => by
    by_cases e : j = k
    · exact ⟨sqO (dO L W k) (vN L k), List.mem_append_right _ (List.mem_singleton.mpr rfl), by rw [e]; rfl⟩
    · obtain ⟨q, h1, h2⟩ := dq_mem W k j (by omega)
      exact ⟨q, List.mem_append_left _ h1, h2⟩
theorem rs_dvd {g : Nat} (x : Nat) : ∀ m k, m + k ≤ L.length → (∀ j, j < L.length → g ∣ vN L j) → g ∣ rsF L x m k
  | 0, _, _, _ => Nat.dvd_zero g
  | m + 1, k, hk, h => by
    have e : rsF L x (m + 1) k = if gN L k = x then vN L k + rsF L x m (k + 1) else 0 := rfl
    rw [e]
    by_cases q : gN L k = x
    · rw [if_pos q]; exact Nat.dvd_add (h k (by omega)) (rs_dvd x m (k + 1) (by omega) h)
    · rw [if_neg q]; exact Nat.dvd_zero g
/-- a drawn rectangle is one -/
theorem dr_geo (h : LsOk L) (nf : ∀ y, y < L.length → ¬ flA L (grS L 0) y) (h1 : (dO L (grS L 0) L.length).length = 1) : Geo (nI (grS L 0)).toInt (nI (dpO (dO L (grS L 0) L.length) (ntO (dO L (grS L 0) L.length)))).toInt (ofF (dF L (grS L 0)) L.length) := by
  obtain ⟨⟨i1, i2, i3, i4, i5, i6⟩, _, _⟩ := dr_inv h rfl L.length (Nat.le_refl _) nf
  have nt0 : ntO (dO L (grS L 0) L.length) = 0 := by have := nt_lt i1; omega
  have l1 := h.1
  have l24 := h.2.1
  have wl : grS L 0 ≤ 240000 := by
    have := rsF_le h (gN L 0) (L.length - 0) 0 (by omega)
    unfold grS
    omega
  have dp0 : dpO (dO L (grS L 0) L.length) 0 ≤ L.length * 10000 := i5 0 (by omega)
  have hc : ∀ t, t < grS L 0 → hO (dO L (grS L 0) L.length) t = dpO (dO L (grS L 0) L.length) 0 := fun t ht => hO_at i1 (by omega) (by rw [i1.2.1]; exact Nat.zero_le t) (by
    unfold enO
    rw [if_neg (by omega)]; exact ht) ht
  rw [nt0, dq_of]
  refine geo_of (by rw [dq_len]; exact l1) (by rw [dq_len]; omega) (by omega) (by omega) (fun q hq => ?_) i2.2 ?_ (fun g gs => ?_)
  · obtain ⟨a1, a2, a3⟩ := i2.1 q hq
    refine ⟨a1, a2, ?_⟩
    have := a3 q.1 (Nat.le_refl _) (by omega)
    rw [hc q.1 (by omega)] at this
    exact this
  · rw [← i3, smn_congr (n := grS L 0) (g := fun t => if 0 ≤ t ∧ t < 0 + grS L 0 then dpO (dO L (grS L 0) L.length) 0 else 0) (fun t ht => by rw [hc t ht, if_pos ⟨Nat.zero_le t, by omega⟩]), (smn_ind 0 (grS L 0) (dpO (dO L (grS L 0) L.length) 0) (grS L 0)).2.2 (by omega)]
  · have gw : g ∣ grS L 0 := rs_dvd (gN L 0) (L.length - 0) 0 (by omega) (fun j hj => by
      obtain ⟨q, q1, q2⟩ := dq_mem (L := L) (grS L 0) L.length j hj
      rw [← q2]; exact gs q q1)
    obtain ⟨b1, b2⟩ := i4 g gw gs
    exact ⟨b1, gw, (b2 0 (by omega)).2⟩
end
section
variable {a b : Nat → Nat} {W n : Nat}
theorem fn_of (sz : Nat → Nat) (Wd : Nat) (p : List Nat) (h : (sqN sz Wd p).length = p.length) : ofF (fN sz Wd p) p.length = (sqN sz Wd p).map sqI := by
  apply List.ext_getElem
  · rw [ofF_len, List.length_map, h]
  · intro i h1 h2
    rw [List.length_map] at h2
    have e := ofF_get (fN sz Wd p) (n := p.length) (k := i) (by rw [ofF_len] at h1; exact h1)
    rw [List.getElem_map]
    have e2 : (ofF (fN sz Wd p) p.length).getD i (0, 0, 0) = (ofF (fN sz Wd p) p.length)[i] := by
      rw [List.getD_eq_getElem?_getD, List.getElem?_eq_getElem h1]; rfl
    rw [← e2, e]
    unfold fN
    rw [List.getD_eq_getElem?_getD, List.getElem?_eq_getElem h2]
    rfl
theorem cn_pos (hn0 : 0 < n) (d0 : 0 < fD a b W n) : 0 < cnN (nSz a b W n) W := by
  have gp := fg_pos (a := a) (b := b) (W := W) hn0 d0
  refine Classical.byContradiction (fun z => ?_)
  have sc := sol_cur hn0 (f_sol (a := a) (b := b) (W := W) hn0)
  rw [sm_zero (fun w hw => ?_)] at sc
  · omega
  · have : ∀ m, cnN (nSz a b W n) m = 0 → ∀ x, x < m → nSz a b W n x = 0 := by
      intro m
      induction m with
      | zero => exact fun _ x hx => absurd hx (Nat.not_lt_zero x)
      | succ m ihm =>
        intro h0 x hx
        have h0' : cnN (nSz a b W n) m + (if 0 < nSz a b W n m then 1 else 0) = 0 := h0
        by_cases e : x = m
        · rw [e]
          refine Classical.byContradiction (fun q => ?_)
          rw [if_pos (by omega)] at h0'
          omega
        · exact ihm (by omega) x (by omega)
    have z0 := this W (by omega) w hw
    unfold nSz at z0
    have z1 : fI a b W n w = 0 := by omega
    have z2 : fC a b W n w = 0 := by
      obtain ⟨k, ek⟩ := fg_dvdI (a := a) (b := b) (W := W) (n := n) hw
      unfold fI at z1
      rw [ek, Int.mul_ediv_cancel_left _ (by omega)] at z1
      rw [ek, z1, Int.mul_zero]
    show dl a b w 0 * fC a b W n w = 0
    rw [z2, Int.mul_zero]
theorem fc_gi (hn0 : 0 < n) (d0 : 0 < fD a b W n) {w : Nat} (hw : w < W) : fC a b W n w = (fG a b W n W : Int) * fI a b W n w := by
  have gp := fg_pos (a := a) (b := b) (W := W) hn0 d0
  obtain ⟨k, ek⟩ := fg_dvdI (a := a) (b := b) (W := W) (n := n) hw
  unfold fI
  rw [ek, Int.mul_ediv_cancel_left _ (by omega)]
theorem fd_gw (hn0 : 0 < n) (d0 : 0 < fD a b W n) : fD a b W n = (fG a b W n W : Int) * (nW a b W n : Int) := by
  have gp := fg_pos (a := a) (b := b) (W := W) hn0 d0
  obtain ⟨k, ek⟩ := fg_d (a := a) (b := b) (W := W) hn0
  have kn : 0 ≤ fD a b W n / (fG a b W n W : Int) := Int.ediv_nonneg (by omega) (by omega)
  unfold nW
  rw [Int.toNat_of_nonneg kn, ek, Int.mul_ediv_cancel_left _ (by omega)]
theorem fv_gh (hn0 : 0 < n) (d0 : 0 < fD a b W n) : fV a b W n 0 = (fG a b W n W : Int) * (nH a b W n : Int) := by
  have gp := fg_pos (a := a) (b := b) (W := W) hn0 d0
  obtain ⟨k, ek⟩ := fg_v (a := a) (b := b) (W := W) d0 0
  have kn := fl_nn (a := a) (b := b) (W := W) hn0 d0 0
  unfold nH
  rw [Int.toNat_of_nonneg kn]
  unfold fL
  rw [ek, Int.mul_ediv_cancel_left _ (by omega)]
theorem sm_cast (f : Nat → Nat) : ∀ m, ((SmN m f : Nat) : Int) = Sm m (fun w => (f w : Int))
  | 0 => rfl
  | m + 1 => by
    show ((SmN m f + f m : Nat) : Int) = Sm m (fun w => (f w : Int)) + (f m : Int)
    rw [← sm_cast f m]; omega
theorem net_en (hn0 : 0 < n) (d0 : 0 < fD a b W n) : SmN W (fun w => nSz a b W n w * nSz a b W n w) = nW a b W n * nH a b W n := by
  have gp := fg_pos (a := a) (b := b) (W := W) hn0 d0
  have en := sol_en hn0 (f_sol (a := a) (b := b) (W := W) hn0)
  have e1 : Sm W (fun w => (vx n (cof (n - 1) (fun i => i) (Lap a b W)) (a w) - vx n (cof (n - 1) (fun i => i) (Lap a b W)) (b w)) * (vx n (cof (n - 1) (fun i => i) (Lap a b W)) (a w) - vx n (cof (n - 1) (fun i => i) (Lap a b W)) (b w))) = Sm W (fun w => ((fG a b W n W : Int) * (fG a b W n W : Int)) * ((nSz a b W n w * nSz a b W n w : Nat) : Int)) := sm_congr (fun w hw => by
    show fC a b W n w * fC a b W n w = _
    have sq : ((nSz a b W n w * nSz a b W n w : Nat) : Int) = fI a b W n w * fI a b W n w := Int.natAbs_mul_self
    rw [fc_gi hn0 d0 hw, sq]
    grind)
  rw [e1, sm_mul, ← sm_cast] at en
  have e2 : fD a b W n * cof (n - 1) (fun i => i) (Lap a b W) 0 = ((fG a b W n W : Int) * (fG a b W n W : Int)) * ((nW a b W n * nH a b W n : Nat) : Int) := by
    rw [← fv_lt (a := a) (b := b) (W := W) hn0, fd_gw hn0 d0, fv_gh hn0 d0, Int.natCast_mul]
    grind
  rw [e2] at en
  have g2 : ¬ ((fG a b W n W : Int) * (fG a b W n W : Int)) = 0 := by
    intro z
    rcases Int.mul_eq_zero.mp z with q | q <;> omega
  have := Int.eq_of_mul_eq_mul_left g2 en
  exact Int.ofNat_inj.mp this
/-- a net's rectangle is one -/
theorem nt_geo (hn0 : 0 < n) (hW : W ≤ 14) (d0 : 0 < fD a b W n) (h : (srN a b W n).1 = 1) : Geo (nI (nW a b W n)).toInt (nI (nH a b W n)).toInt (ofF (fN (nSz a b W n) (nW a b W n) (srN a b W n).2.2) (cnN (nSz a b W n) W)) := by
  have g0 : ¬ fG a b W n W = 0 := by have := fg_pos (a := a) (b := b) (W := W) hn0 d0; omega
  have gp := fg_pos (a := a) (b := b) (W := W) hn0 d0
  have wp := nw_pos (a := a) (b := b) (W := W) hn0 d0
  have wle := nw_le (a := a) (b := b) (W := W) hn0 hW d0
  have hle := nh_le (a := a) (b := b) (n := n) hW d0 g0
  have cp := cn_pos (a := a) (b := b) (W := W) hn0 d0
  have cl := cn_m (nSz a b W n) W
  have hst : ∀ w, w < W → nSz a b W n w ≤ nSt a b W n w := fun w hw => sz_st hn0 d0 w hw
  obtain ⟨_, _, _, gk⟩ := gs_ok (f := fitB (nSz a b W n) (nSt a b W n) (nW a b W n) (nH a b W n)) (m := W) (cnN (nSz a b W n) W) [] 0 trivial (by decide)
  obtain ⟨pt, ln⟩ := gk h
  have ln' : (srN a b W n).2.2.length = cnN (nSz a b W n) W := by
    have : (srN a b W n).2.2.length = ([] : List Nat).length + cnN (nSz a b W n) W := ln
    rw [this]
    show 0 + cnN (nSz a b W n) W = _
    omega
  have pt' : PtN (fitB (nSz a b W n) (nSt a b W n) (nW a b W n) (nH a b W n)) W (srN a b W n).2.2 := pt
  obtain ⟨o1, o2, o3, o4, o5, o6, o7⟩ := pt_okm wp hst _ pt'
  obtain ⟨nd, im⟩ := pt_dn _ pt'
  have all : ∀ w, w < W → 0 < nSz a b W n w → w ∈ (srN a b W n).2.2 := by
    intro w hw hz
    refine Classical.byContradiction (fun c => ?_)
    have := (cn_le (sz := nSz a b W n) W (w :: (srN a b W n).2.2) (List.nodup_cons.mpr ⟨c, nd⟩) (fun x hx => by
      rcases List.mem_cons.mp hx with e | hx
      · rw [e]; exact ⟨hw, hz⟩
      · exact im x hx)).1
    rw [List.length_cons] at this
    omega
  have mem : ∀ (p : List Nat) x, x ∈ p → ∃ q ∈ sqN (nSz a b W n) (nW a b W n) p, q.2.2 = nSz a b W n x := by
    intro p
    induction p with
    | nil => exact fun x hx => absurd hx List.not_mem_nil
    | cons y p ih =>
      intro x hx
      rcases List.mem_cons.mp hx with e | hx
      · exact ⟨sqO (opN (nSz a b W n) (nW a b W n) p) (nSz a b W n y), List.mem_append_right _ (List.mem_singleton.mpr rfl), by rw [e]; rfl⟩
      · obtain ⟨q, q1, q2⟩ := ih x hx
        exact ⟨q, List.mem_append_left _ q1, q2⟩
  rw [← ln', fn_of _ _ _ o7]
  refine geo_of (by rw [o7]; omega) (by rw [o7]; omega) wle hle (fun q hq => ⟨(o2.1 q hq).1, (o2.1 q hq).2.1, o6 q hq⟩) o2.2 ?_ (fun g gs => ?_)
  · rw [sq_ar, (cn_le (sz := nSz a b W n) W _ nd im).2 ln', net_en hn0 d0]
  · have gi : ∀ w, w < W → (g : Int) ∣ fI a b W n w := by
      intro w hw
      by_cases z : 0 < nSz a b W n w
      · obtain ⟨q, q1, q2⟩ := mem _ w (all w hw z)
        have := gs q q1
        rw [q2] at this
        exact Int.ofNat_dvd_left.mpr this
      · have : fI a b W n w = 0 := by unfold nSz at z; omega
        rw [this]; exact Int.dvd_zero _
    have gw : g ∣ nW a b W n := by
      have sc := sol_cur hn0 (f_sol (a := a) (b := b) (W := W) hn0)
      have e1 : Sm W (fun w => dl a b w 0 * (vx n (cof (n - 1) (fun i => i) (Lap a b W)) (a w) - vx n (cof (n - 1) (fun i => i) (Lap a b W)) (b w))) = Sm W (fun w => (fG a b W n W : Int) * (dl a b w 0 * fI a b W n w)) := sm_congr (fun w hw => by
        show dl a b w 0 * fC a b W n w = _
        rw [fc_gi hn0 d0 hw]; grind)
      rw [e1, sm_mul, fd_gw hn0 d0] at sc
      have sc' := Int.eq_of_mul_eq_mul_left (show ¬ (fG a b W n W : Int) = 0 by omega) sc
      have dv : (g : Int) ∣ (nW a b W n : Int) := by
        rw [← sc']
        exact sm_dvd (fun w hw => Int.dvd_trans (gi w hw) (Int.dvd_mul_left _ _))
      exact Int.ofNat_dvd.mp dv
    have gh : g ∣ nH a b W n := by
      have kn := fl_nn (a := a) (b := b) (W := W) hn0 d0 0
      have ve : ∀ q, vx n (fun p => fL a b W n p) q = fL a b W n q := by
        intro q
        by_cases l : q < n
        · exact if_pos l
        · rw [show vx n (fun p => fL a b W n p) q = 0 from if_neg l]
          unfold fL
          rw [fv_ge (by omega), Int.zero_ediv]
      have dv : (g : Int) ∣ fL a b W n 0 := sol_dvd (a := a) (b := b) (W := W) (n := n) (v := fun p => fL a b W n p) (by unfold fD at d0; omega) (fun w hw => by
        rw [ve, ve, ← fi_eq hn0 d0 w hw]; exact gi w hw) hn0
      unfold nH
      rw [← Int.toNat_of_nonneg kn] at dv
      exact Int.ofNat_dvd.mp dv
    obtain ⟨b1, _⟩ := o3 g gw gs
    exact ⟨b1, gw, gh⟩
end
