/-- turned, over the whole numbers -/
def tnZ (τ : Nat) (w h : Int) (q : Sz) : Sz :=
  if τ % 4 = 0 then ((if τ < 4 then q.1 else w - (q.1 + q.2.2)), q.2.1, q.2.2) else if τ % 4 = 1 then (h - (q.2.1 + q.2.2), (if τ < 4 then q.1 else w - (q.1 + q.2.2)), q.2.2) else if τ % 4 = 2 then ((if τ < 4 then w - (q.1 + q.2.2) else q.1), h - (q.2.1 + q.2.2), q.2.2) else (q.2.1, (if τ < 4 then w - (q.1 + q.2.2) else q.1), q.2.2)
def wZ (τ : Nat) (w h : Int) : Int := if τ % 2 = 1 then h else w
def hZ (τ : Nat) (w h : Int) : Int := if τ % 2 = 1 then w else h
/-- the turn that turns back -/
def bkT (τ : Nat) : Nat := if τ = 1 then 3 else if τ = 3 then 1 else τ
theorem bkT_lt {τ : Nat} (h : τ < 8) : bkT τ < 8 := by unfold bkT; split <;> (try split) <;> omega
theorem wZ_bk {τ : Nat} (h8 : τ < 8) (w h : Int) : wZ (bkT τ) (wZ τ w h) (hZ τ w h) = w ∧ hZ (bkT τ) (wZ τ w h) (hZ τ w h) = h := by
  match τ, h8 with
  | 0, _ => exact ⟨rfl, rfl⟩
  | 1, _ => exact ⟨rfl, rfl⟩
  | 2, _ => exact ⟨rfl, rfl⟩
  | 3, _ => exact ⟨rfl, rfl⟩
  | 4, _ => exact ⟨rfl, rfl⟩
  | 5, _ => exact ⟨rfl, rfl⟩
  | 6, _ => exact ⟨rfl, rfl⟩
  | 7, _ => exact ⟨rfl, rfl⟩
theorem sz_ext {a b : Sz} (h1 : a.1 = b.1) (h2 : a.2.1 = b.2.1) (h3 : a.2.2 = b.2.2) : a = b := Prod.ext h1 (Prod.ext h2 h3)
theorem tnZ_bk {τ : Nat} (h8 : τ < 8) (w h : Int) (q : Sz) : tnZ (bkT τ) (wZ τ w h) (hZ τ w h) (tnZ τ w h q) = q := by
  match τ, h8 with
  | 0, _ => exact sz_ext (show q.1 = q.1 from rfl) rfl rfl
  | 1, _ => exact sz_ext (show q.1 = q.1 from rfl) (show h - (h - (q.2.1 + q.2.2) + q.2.2) = q.2.1 by omega) rfl
  | 2, _ => exact sz_ext (show w - (w - (q.1 + q.2.2) + q.2.2) = q.1 by omega) (show h - (h - (q.2.1 + q.2.2) + q.2.2) = q.2.1 by omega) rfl
  | 3, _ => exact sz_ext (show w - (w - (q.1 + q.2.2) + q.2.2) = q.1 by omega) (show q.2.1 = q.2.1 from rfl) rfl
  | 4, _ => exact sz_ext (show w - (w - (q.1 + q.2.2) + q.2.2) = q.1 by omega) rfl rfl
  | 5, _ => exact sz_ext (show w - (w - (q.1 + q.2.2) + q.2.2) = q.1 by omega) (show h - (h - (q.2.1 + q.2.2) + q.2.2) = q.2.1 by omega) rfl
  | 6, _ => exact sz_ext (show q.1 = q.1 from rfl) (show h - (h - (q.2.1 + q.2.2) + q.2.2) = q.2.1 by omega) rfl
  | 7, _ => exact sz_ext (show q.1 = q.1 from rfl) (show q.2.1 = q.2.1 from rfl) rfl
theorem tnZ_s (τ : Nat) (w h : Int) (q : Sz) : (tnZ τ w h q).2.2 = q.2.2 := by
  unfold tnZ
  split
  · rfl
  · split
    · rfl
    · split <;> rfl
theorem tnZ_mul (τ : Nat) (w h d : Int) (q : Sz) : tnZ τ (w * d) (h * d) (q.1 * d, q.2.1 * d, q.2.2 * d) = ((tnZ τ w h q).1 * d, (tnZ τ w h q).2.1 * d, (tnZ τ w h q).2.2 * d) := by
  have e1 : w * d - (q.1 * d + q.2.2 * d) = (w - (q.1 + q.2.2)) * d := by rw [Int.sub_mul, Int.add_mul]
  have e2 : h * d - (q.2.1 * d + q.2.2 * d) = (h - (q.2.1 + q.2.2)) * d := by rw [Int.sub_mul, Int.add_mul]
  unfold tnZ
  show (if τ % 4 = 0 then ((if τ < 4 then q.1 * d else w * d - (q.1 * d + q.2.2 * d)), q.2.1 * d, q.2.2 * d) else if τ % 4 = 1 then (h * d - (q.2.1 * d + q.2.2 * d), (if τ < 4 then q.1 * d else w * d - (q.1 * d + q.2.2 * d)), q.2.2 * d) else if τ % 4 = 2 then ((if τ < 4 then w * d - (q.1 * d + q.2.2 * d) else q.1 * d), h * d - (q.2.1 * d + q.2.2 * d), q.2.2 * d) else (q.2.1 * d, (if τ < 4 then w * d - (q.1 * d + q.2.2 * d) else q.1 * d), q.2.2 * d)) = _
  rw [e1, e2]
  by_cases h4 : τ < 4
  · simp only [h4, if_true]
    split
    · rfl
    · split
      · rfl
      · split <;> rfl
  · simp only [h4, if_false]
    split
    · rfl
    · split
      · rfl
      · split <;> rfl
theorem tn_Z {w h : Int32} {L : List Sq} (g : Geo w.toInt h.toInt L) (τ : Nat) {q : Sq} (hq : q ∈ L) : toZ (tnQ τ w h q) = tnZ τ w.toInt h.toInt (toZ q) := by
  obtain ⟨a1, a2, a3, a4, a5⟩ := g.2.2.2.2.1 q hq
  have w1 := g.2.2.1
  have w2 := g.2.2.2.1
  have e1 : (w - (q.1 + q.2.2)).toInt = w.toInt - (q.1.toInt + q.2.2.toInt) := by
    have : (q.1 + q.2.2).toInt = q.1.toInt + q.2.2.toInt := i32_add (by omega) (by omega)
    rw [i32_sub (by omega) (by omega), this]
  have e2 : (h - (q.2.1 + q.2.2)).toInt = h.toInt - (q.2.1.toInt + q.2.2.toInt) := by
    have : (q.2.1 + q.2.2).toInt = q.2.1.toInt + q.2.2.toInt := i32_add (by omega) (by omega)
    rw [i32_sub (by omega) (by omega), this]
  have eX : (tnX τ w q).toInt = if τ < 4 then q.1.toInt else w.toInt - (q.1.toInt + q.2.2.toInt) := by
    unfold tnX
    split
    · rfl
    · exact e1
  have eM : (tnM τ w q).toInt = if τ < 4 then w.toInt - (q.1.toInt + q.2.2.toInt) else q.1.toInt := by
    unfold tnM
    split
    · exact e1
    · rfl
  have eB : (tnB h q).toInt = h.toInt - (q.2.1.toInt + q.2.2.toInt) := e2
  unfold tnQ tnZ
  split
  · exact sz_ext eX rfl rfl
  · split
    · exact sz_ext eB eX rfl
    · split
      · exact sz_ext eM eB rfl
      · exact sz_ext rfl eM rfl
/-- a rectangle made least: its sides, its squares, the divisor -/
def Lst (L : List Sq) (w h : Int32) (u v d : Int) (Z : List Sz) : Prop := 1 ≤ d ∧ w.toInt = u * d ∧ h.toInt = v * d ∧ L.map toZ = Z.map (fun q => (q.1 * d, q.2.1 * d, q.2.2 * d)) ∧ GeoZ u v Z ∧ 1 ≤ Z.length ∧ ∀ c : Int, (∀ z ∈ Z, c ∣ z.2.2) → c ∣ 1
theorem lst_of {w h : Int32} {L : List Sq} (g : Geo w.toInt h.toInt L) : Lst L w h (w / nI (gcL L)).toInt (h / nI (gcL L)).toInt (gcL L : Int) ((L.map (dvQ (nI (gcL L)))).map toZ) := by
  have hp := geo_pos g
  have hg := gcL_pos g
  have hlt := gcL_lt L
  have gd := (geo_Z.mp (geo_div g)).2.2.2.2
  have ew : (w / nI (gcL L)).toInt = w.toInt / (gcL L : Int) := i32_divT (by omega) hg hlt
  have eh : (h / nI (gcL L)).toInt = h.toInt / (gcL L : Int) := i32_divT (by omega) hg hlt
  have dv : ∀ q ∈ L, ((gcL L : Nat) : Int) ∣ q.2.2.toInt := by
    intro q hq
    obtain ⟨k, hk, rfl⟩ := List.getElem_of_mem hq
    have h1 := gdN_dvd (szN L) L.length k hk
    have h2 := szN_eq g hk
    have e : qS L k = (L[k]).2.2 := by unfold qS; rw [q_getD hk]
    rw [← e, h2.1, nI_toInt (szN_lt L k)]
    exact Int.ofNat_dvd.mpr h1
  obtain ⟨d1, d2, d3⟩ := g.2.2.2.2.2.2.2 _ dv
  have em : L.map toZ = ((L.map (dvQ (nI (gcL L)))).map toZ).map (fun q => (q.1 * (gcL L : Int), q.2.1 * (gcL L : Int), q.2.2 * (gcL L : Int))) := by
    rw [List.map_map, List.map_map]
    refine List.map_congr_left (fun q hq => ?_)
    obtain ⟨a1, a2, a3, a4, a5⟩ := g.2.2.2.2.1 q hq
    show (q.1.toInt, q.2.1.toInt, q.2.2.toInt) = ((q.1 / nI (gcL L)).toInt * (gcL L : Int), (q.2.1 / nI (gcL L)).toInt * (gcL L : Int), (q.2.2 / nI (gcL L)).toInt * (gcL L : Int))
    rw [i32_divT a1 hg hlt, i32_divT a2 hg hlt, i32_divT (by omega) hg hlt, Int.ediv_mul_cancel (d1 q hq).1, Int.ediv_mul_cancel (d1 q hq).2, Int.ediv_mul_cancel (dv q hq)]
  refine ⟨by omega, by rw [ew, Int.ediv_mul_cancel d2], by rw [eh, Int.ediv_mul_cancel d3], em, gd, ?_, fun c hc => ?_⟩
  · rw [List.length_map, List.length_map]; exact g.1
  · have hcd : ∀ k, k < L.length → (c.natAbs * gcL L) ∣ szN L k := by
      intro k hk
      have hm : L[k] ∈ L := List.getElem_mem hk
      have h1 := hc (toZ (dvQ (nI (gcL L)) L[k])) (List.mem_map.mpr ⟨_, List.mem_map.mpr ⟨_, hm, rfl⟩, rfl⟩)
      have h2 : (toZ (dvQ (nI (gcL L)) L[k])).2.2 * (gcL L : Int) = (L[k]).2.2.toInt := by
        obtain ⟨a1, a2, a3, a4, a5⟩ := g.2.2.2.2.1 _ hm
        show ((L[k]).2.2 / nI (gcL L)).toInt * (gcL L : Int) = _
        rw [i32_divT (by omega) hg hlt, Int.ediv_mul_cancel (dv _ hm)]
      have h3 : c * (gcL L : Int) ∣ (L[k]).2.2.toInt := by
        rw [← h2]
        exact Int.mul_dvd_mul_right _ h1
      have h4 := Int.natAbs_dvd_natAbs.mpr h3
      rw [Int.natAbs_mul] at h4
      have e : qS L k = (L[k]).2.2 := by unfold qS; rw [q_getD hk]
      have h5 : (L[k]).2.2.toInt.natAbs = szN L k := by
        unfold szN
        rw [e]
        obtain ⟨a1, a2, a3, a4, a5⟩ := g.2.2.2.2.1 _ hm
        omega
      rw [h5] at h4
      exact h4
    have h6 := gdN_great (szN L) _ L.length hcd
    have h7 : c.natAbs * gcL L ∣ 1 * gcL L := by rw [Nat.one_mul]; exact h6
    have h8 : c.natAbs ∣ 1 := Nat.dvd_of_mul_dvd_mul_right (by omega) h7
    exact Int.natAbs_dvd_natAbs.mp h8
theorem pw_ds {Z : List Sz} (h : Z.Pairwise dsZ) : ∀ a ∈ Z, ∀ b ∈ Z, a = b ∨ dsZ a b := by
  induction Z with
  | nil => intro a ha; exact absurd ha List.not_mem_nil
  | cons x l ih =>
    rw [List.pairwise_cons] at h
    intro a ha b hb
    rcases List.mem_cons.mp ha with ea | ha
    · rcases List.mem_cons.mp hb with eb | hb
      · exact Or.inl (ea.trans eb.symm)
      · exact Or.inr (by rw [ea]; exact h.1 b hb)
    · rcases List.mem_cons.mp hb with eb | hb
      · have := h.1 a ha
        refine Or.inr ?_
        rw [eb]
        unfold dsZ at this ⊢
        omega
      · exact ih h.2 a ha b hb
/-- squares of which some fill all: there are no others -/
theorem fill {w h : Int} {Z K : List Sz} (gz : GeoZ w h Z) (gk : GeoZ w h K) (hs : ∀ k ∈ K, k ∈ Z) : ∀ z ∈ Z, z ∈ K := by
  intro z hz
  refine Classical.byContradiction (fun hn => ?_)
  obtain ⟨z1, z2, z3, z4, z5⟩ := gz.1 z hz
  have hp : (z :: K).Pairwise dsZ := by
    rw [List.pairwise_cons]
    refine ⟨fun k hk => ?_, gk.2.1⟩
    rcases pw_ds gz.2.1 z hz k (hs k hk) with e | e
    · rw [e] at hn; exact absurd hk hn
    · exact e
  have hpos : ∀ q ∈ z :: K, 1 ≤ q.2.2 := fun q hq => by
    rcases List.mem_cons.mp hq with e | e
    · rw [e]; exact z3
    · exact (gk.1 q e).2.2.1
  have hk := pack hp hpos (x1 := 0) (y1 := 0) (x2 := w) (y2 := h) (by omega) (by omega)
  have e1 : sumL (ov 0 0 w h) K = w * h := by
    have := tile gk (x1 := 0) (y1 := 0) (x2 := w) (y2 := h) (by omega) (by omega) (by omega) (by omega) (by omega) (by omega)
    rw [this, Int.sub_zero, Int.sub_zero]
  have e2 : 0 < ov 0 0 w h z := ov_to z3 (by omega) (by omega) (by unfold toR; omega)
  have e3 : sumL (ov 0 0 w h) (z :: K) = ov 0 0 w h z + sumL (ov 0 0 w h) K := rfl
  rw [e3, e1, Int.sub_zero, Int.sub_zero] at hk
  omega
theorem geoZ_turn {τ : Nat} (h8 : τ < 8) {w h : Int} {L : List Sz} (g : GeoZ w h L) : GeoZ (wZ τ w h) (hZ τ w h) (L.map (tnZ τ w h)) := by
  have hm := geoZ_mirror g
  have q1 : ∀ {w h : Int} {K : List Sz}, GeoZ w h K → GeoZ h w (K.map (fun q => (h - q.2.1 - q.2.2, q.1, q.2.2))) := fun g => geoZ_quarter g
  have cg : ∀ {w h : Int} {K K' : List Sz}, K' = K → GeoZ w h K → GeoZ w h K' := fun e g => by rw [e]; exact g
  have ex : ∀ {f g : Sz → Sz}, (∀ q, (f q).1 = (g q).1 ∧ (f q).2.1 = (g q).2.1 ∧ (f q).2.2 = (g q).2.2) → L.map f = L.map g := fun e => List.map_congr_left (fun q _ => sz_ext (e q).1 (e q).2.1 (e q).2.2)
  match τ, h8 with
  | 0, _ => exact cg (K := L) ((ex (g := id) (fun q => ⟨rfl, rfl, rfl⟩)).trans (List.map_id L)) g
  | 1, _ =>
    refine cg ?_ (q1 g)
    exact ex (fun q => ⟨show h - (q.2.1 + q.2.2) = h - q.2.1 - q.2.2 by omega, rfl, rfl⟩)
  | 2, _ =>
    have := q1 (q1 g)
    rw [List.map_map] at this
    refine cg ?_ this
    exact ex (fun q => ⟨show w - (q.1 + q.2.2) = w - q.1 - q.2.2 by omega, show h - (q.2.1 + q.2.2) = h - q.2.1 - q.2.2 by omega, rfl⟩)
  | 3, _ =>
    have := q1 (q1 (q1 g))
    rw [List.map_map, List.map_map] at this
    refine cg ?_ this
    exact ex (fun q => ⟨show q.2.1 = h - (h - q.2.1 - q.2.2) - q.2.2 by omega, show w - (q.1 + q.2.2) = w - q.1 - q.2.2 by omega, rfl⟩)
  | 4, _ =>
    refine cg ?_ hm
    exact ex (fun q => ⟨show w - (q.1 + q.2.2) = w - q.1 - q.2.2 by omega, rfl, rfl⟩)
  | 5, _ =>
    have := q1 hm
    rw [List.map_map] at this
    refine cg ?_ this
    exact ex (fun q => ⟨show h - (q.2.1 + q.2.2) = h - q.2.1 - q.2.2 by omega, show w - (q.1 + q.2.2) = w - q.1 - q.2.2 by omega, rfl⟩)
  | 6, _ =>
    have := q1 (q1 hm)
    rw [List.map_map, List.map_map] at this
    refine cg ?_ this
    exact ex (fun q => ⟨show q.1 = w - (w - q.1 - q.2.2) - q.2.2 by omega, show h - (q.2.1 + q.2.2) = h - q.2.1 - q.2.2 by omega, rfl⟩)
  | 7, _ =>
    have := q1 (q1 (q1 hm))
    rw [List.map_map, List.map_map, List.map_map] at this
    refine cg ?_ this
    exact ex (fun q => ⟨show q.2.1 = h - (h - q.2.1 - q.2.2) - q.2.2 by omega, show q.1 = w - (w - q.1 - q.2.2) - q.2.2 by omega, rfl⟩)
/-- in one proportion, both least: the same -/
theorem prop_same {u v u2 v2 : Int} {Z Z2 : List Sz} (g : GeoZ u v Z) (g2 : GeoZ u2 v2 Z2) (l1 : 1 ≤ Z.length) (c1 : ∀ c : Int, (∀ z ∈ Z, c ∣ z.2.2) → c ∣ 1) (c2 : ∀ c : Int, (∀ z ∈ Z2, c ∣ z.2.2) → c ∣ 1) (hp : 1 ≤ u ∧ 1 ≤ u2) (hv : v * u2 = v2 * u) (hz : ∀ z ∈ Z, ∃ z' ∈ Z2, z.1 * u2 = z'.1 * u ∧ z.2.1 * u2 = z'.2.1 * u ∧ z.2.2 * u2 = z'.2.2 * u) : u = u2 ∧ v = v2 ∧ ∀ z, z ∈ Z ↔ z ∈ Z2 := by
  -- u divides u2
  obtain ⟨e, e1, e2⟩ := dvd_scale u u2 hp.2
  have he : e ∣ 1 := c1 e (fun z hzm => by
    obtain ⟨z', _, _, _, q3⟩ := hz z hzm
    exact e1 _ ⟨z'.2.2, by rw [q3, Int.mul_comm]⟩)
  have hd : u ∣ 1 * u2 := e2 1 he
  rw [Int.one_mul] at hd
  obtain ⟨a, ha⟩ := hd
  have u0 : u ≠ 0 := by omega
  have cancel : ∀ {x y : Int}, x * u2 = y * u → y = x * a := fun {x y} q => by
    rw [ha] at q
    have : y * u = (x * a) * u := by rw [← q, Int.mul_left_comm, Int.mul_comm u]
    exact Int.eq_of_mul_eq_mul_right u0 this
  have ev : v2 = v * a := cancel hv
  have ea : u2 = u * a := ha
  have a1 : 1 ≤ a := by
    rcases Int.lt_or_le 0 a with h | h
    · omega
    · have := Int.mul_nonneg (show 0 ≤ u by omega) (show 0 ≤ -a by omega)
      rw [Int.mul_neg, ← ea] at this
      omega
  have gs := geoZ_scale a1 g
  rw [← ea, ← ev] at gs
  have sub : ∀ k ∈ Z.map (fun q => (q.1 * a, q.2.1 * a, q.2.2 * a)), k ∈ Z2 := by
    intro k hk
    obtain ⟨z, hzm, rfl⟩ := List.mem_map.mp hk
    obtain ⟨z', hz', q1, q2, q3⟩ := hz z hzm
    have : (z.1 * a, z.2.1 * a, z.2.2 * a) = z' := sz_ext (cancel q1).symm (cancel q2).symm (cancel q3).symm
    rw [this]
    exact hz'
  have sup := fill g2 gs sub
  have hone : a ∣ 1 := c2 a (fun z hzm => by
    obtain ⟨k, _, rfl⟩ := List.mem_map.mp (sup z hzm)
    exact Int.dvd_mul_left k.2.2 a)
  have ea1 : a = 1 := by
    have := Int.le_of_dvd (by decide) hone
    omega
  subst ea1
  have eid : Z.map (fun q => (q.1 * 1, q.2.1 * 1, q.2.2 * 1)) = Z := by
    rw [show Z.map (fun q : Sz => (q.1 * 1, q.2.1 * 1, q.2.2 * 1)) = Z.map id from List.map_congr_left (fun q _ => by rw [Int.mul_one, Int.mul_one, Int.mul_one]; rfl), List.map_id]
  rw [eid] at sub sup
  refine ⟨by rw [ea, Int.mul_one], by rw [ev, Int.mul_one], fun z => ⟨sub z, sup z⟩⟩
