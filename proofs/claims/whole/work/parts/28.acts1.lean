/-- nothing changes but ints and longs of the things of W; no thing comes -/
def Fs (W : List Nat) (M M' : am_Mem) : Prop := am_n M' = am_n M ∧ am_K M' = am_K M ∧ am_L M' = am_L M ∧ am_R M' = am_R M ∧ ∀ a, a ∉ W → am_I M' a = am_I M a ∧ am_J M' a = am_J M a
theorem fs_refl (W : List Nat) (M : am_Mem) : Fs W M M := ⟨rfl, rfl, rfl, rfl, fun _ _ => ⟨rfl, rfl⟩⟩
theorem fs_trans {W : List Nat} {M M1 M2 : am_Mem} (h : Fs W M M1) (g : Fs W M1 M2) : Fs W M M2 :=
  ⟨g.1.trans h.1, g.2.1.trans h.2.1, g.2.2.1.trans h.2.2.1, g.2.2.2.1.trans h.2.2.2.1, fun a ha => ⟨(g.2.2.2.2 a ha).1.trans (h.2.2.2.2 a ha).1, (g.2.2.2.2 a ha).2.trans (h.2.2.2.2 a ha).2⟩⟩
theorem fs_mono {W W' : List Nat} {M M' : am_Mem} (h : Fs W M M') (hs : ∀ a ∈ W, a ∈ W') : Fs W' M M' :=
  ⟨h.1, h.2.1, h.2.2.1, h.2.2.2.1, fun a ha => h.2.2.2.2 a (fun h' => ha (hs a h'))⟩
theorem fs_wI {W : List Nat} (M : am_Mem) {a : Nat} (i : Nat) (v : Int32) (h : a ∈ W) : Fs W M (am_wI M a i v) :=
  ⟨rfl, rfl, rfl, rfl, fun b hb => ⟨rI_ne M i v (fun e => hb (e ▸ h)), rfl⟩⟩
theorem fs_wJ {W : List Nat} (M : am_Mem) {a : Nat} (i : Nat) (v : Int64) (h : a ∈ W) : Fs W M (am_wJ M a i v) :=
  ⟨rfl, rfl, rfl, rfl, fun b hb => ⟨rfl, rJ_ne M i v (fun e => hb (e ▸ h))⟩⟩
theorem fs_fr {W : List Nat} {M M' : am_Mem} (h : Fs W M M') : am_Fr W M M' :=
  ⟨Nat.le_of_eq h.1.symm, fun a _ => ⟨by rw [h.2.1], by rw [h.2.2.1], by rw [h.2.2.2.1], fun hw => h.2.2.2.2 a hw⟩⟩
theorem fs_shp {W : List Nat} {M M' : am_Mem} (h : Fs W M M') (s : Shp M) : Shp M' := by
  unfold Shp
  rw [h.1, h.2.1, h.2.2.1, h.2.2.2.1]
  exact s
theorem fs_I {W : List Nat} {M M' : am_Mem} (h : Fs W M M') {a : Nat} (ha : a ∉ W) : am_I M' a = am_I M a := (h.2.2.2.2 a ha).1
theorem fs_J {W : List Nat} {M M' : am_Mem} (h : Fs W M M') {a : Nat} (ha : a ∉ W) : am_J M' a = am_J M a := (h.2.2.2.2 a ha).2
theorem fs_dyn {W : List Nat} {M M' : am_Mem} (h : Fs W M M') (hW : ∀ a ∈ W, a ≤ 141) : Dyn M M' := dyn_fr (fs_fr h) hW
/-- the room of a draft -/
def DrT (M : am_Mem) (d : Nat) : Prop := am_K M d = 0 ∧ am_R M d 0 = d + 1 ∧ am_R M d 1 = d + 2 ∧ am_R M d 2 = d + 3 ∧ am_K M (d + 1) = 14 ∧ am_K M (d + 2) = 14 ∧ am_K M (d + 3) = 14 ∧ am_L M (d + 1) = 40 ∧ am_L M (d + 2) = 40 ∧ am_L M (d + 3) = 40
theorem drt_fs {W : List Nat} {M M' : am_Mem} {d : Nat} (h : Fs W M M') (t : DrT M d) : DrT M' d := by
  unfold DrT
  rw [h.2.1, h.2.2.1, h.2.2.2.1]
  exact t
theorem drt_89 {M : am_Mem} (s : Shp M) : DrT M 89 := ⟨sk89 s, sr89_0 s, sr89_1 s, sr89_2 s, sk90 s, sk91 s, sk92 s, sl90 s, sl91 s, sl92 s⟩
theorem drt_93 {M : am_Mem} (s : Shp M) : DrT M 93 := ⟨sk93 s, sr93_0 s, sr93_1 s, sr93_2 s, sk94 s, sk95 s, sk96 s, sl94 s, sl95 s, sl96 s⟩
/-- a draft's squares -/
def DrC (M : am_Mem) (d n : Nat) (w h : Int32) (f : Nat → Sq) : Prop := am_I M d 3 = nI n ∧ am_I M d 4 = w ∧ am_I M d 5 = h ∧ ∀ k, k < n → am_I M (d + 1) k = (f k).1 ∧ am_I M (d + 2) k = (f k).2.1 ∧ am_I M (d + 3) k = (f k).2.2
def dW (d : Nat) : List Nat := [d, d + 1, d + 2, d + 3]
theorem dW_0 (d : Nat) : d ∈ dW d := List.mem_cons_self
theorem dW_1 (d : Nat) : d + 1 ∈ dW d := List.mem_cons_of_mem _ List.mem_cons_self
theorem dW_2 (d : Nat) : d + 2 ∈ dW d := List.mem_cons_of_mem _ (List.mem_cons_of_mem _ List.mem_cons_self)
theorem dW_3 (d : Nat) : d + 3 ∈ dW d := List.mem_cons_of_mem _ (List.mem_cons_of_mem _ (List.mem_cons_of_mem _ List.mem_cons_self))
theorem dW_le {d : Nat} (hd : d + 3 ≤ 141) : ∀ a ∈ dW d, a ≤ 141 := by
  intro a ha
  simp only [dW, List.mem_cons, List.not_mem_nil, or_false] at ha
  omega
theorem dr_begin {M : am_Mem} {d : Nat} (t : DrT M d) (w h : Int32) (f : Nat → Sq) : ∃ M', fn0_begin M d w h = some ((), M') ∧ Fs (dW d) M M' ∧ DrC M' d 0 w h f := by
  refine ⟨am_wI (am_wI (am_wI M d 4 w) d 5 h) d 3 0, ?_, fs_trans (fs_trans (fs_wI _ _ _ (dW_0 d)) (fs_wI _ _ _ (dW_0 d))) (fs_wI _ _ _ (dW_0 d)), ?_⟩
  · unfold fn0_begin fn0_begin_b0
    rw [nk_k, t.1]
    rfl
  · refine ⟨rI_eq _ _ _ _, ?_, ?_, fun k hk => absurd hk (Nat.not_lt_zero k)⟩
    · rw [rI_ix _ _ _ (by decide), rI_ix _ _ _ (by decide), rI_eq]
    · rw [rI_ix _ _ _ (by decide), rI_eq]
theorem dr_add {M : am_Mem} {d n : Nat} {w h x y s : Int32} {f : Nat → Sq} (t : DrT M d) (c : DrC M d n w h f) (hn : n < 40) (e : f n = (x, y, s)) : ∃ M', fn0_add M d x y s = some ((), M') ∧ Fs (dW d) M M' ∧ DrC M' d (n + 1) w h f := by
  obtain ⟨t1, t2, t3, t4, t5, t6, t7, t8, t9, t10⟩ := t
  obtain ⟨c1, c2, c3, c4⟩ := c
  refine ⟨am_wI (am_wI (am_wI (am_wI M (d + 1) n x) (d + 2) n y) (d + 3) n s) d 3 (nI (n + 1)), ?_, ?_, ?_⟩
  · unfold fn0_add fn0_add_b0 fn0_add_b49
    have hle : ¬ (40 : Int32) ≤ nI n := nI_ge (b := 40) hn (by decide)
    have hin : am_in (nI n) 40 = true := nk_in hn (by decide)
    have hcl : (nI n).toNatClampNeg = n := nI_clamp (by omega)
    simp (disch := omega) only [nk_k, t1, t2, t3, t4, t5, t6, t7, t8, t9, t10, c1, eq_self, decide_true, nk_ck, nk_ck, hle, if_false, hin, hcl, rI_ne, nI_1]
  · exact fs_trans (fs_trans (fs_trans (fs_wI _ _ _ (dW_1 d)) (fs_wI _ _ _ (dW_2 d))) (fs_wI _ _ _ (dW_3 d))) (fs_wI _ _ _ (dW_0 d))
  · refine ⟨rI_eq _ _ _ _, ?_, ?_, fun k hk => ?_⟩
    · simp (disch := omega) only [rI_ix, rI_ne, c2]
    · simp (disch := omega) only [rI_ix, rI_ne, c3]
    · by_cases hkn : k = n
      · subst hkn
        rw [e]
        simp (disch := omega) only [rI_eq, rI_ne, and_self]
      · obtain ⟨a1, a2, a3⟩ := c4 k (by omega)
        simp (disch := omega) only [rI_ix, rI_ne, a1, a2, a3, and_self]
theorem drc_ext {M : am_Mem} {d n : Nat} {w h : Int32} {f g : Nat → Sq} (c : DrC M d n w h f) (e : ∀ k, k < n → f k = g k) : DrC M d n w h g :=
  ⟨c.1, c.2.1, c.2.2.1, fun k hk => by rw [← e k hk]; exact c.2.2.2 k hk⟩
theorem dr_times {N : Nat} {d n0 : Nat} (hd : d + 3 ≤ 141) {w h x2 x3 x4 : Int32} {f : Nat → Sq} {t : Nat} {q : Rc} (hl : n0 + q.2.2.2.length ≤ 40) (hf : ∀ i, i < q.2.2.2.length → f (n0 + i) = (x3 + qX q.2.2.2 i * x2, x4 + qY q.2.2.2 i * x2, qS q.2.2.2 i * x2)) :
    ∀ k j fuel M, j + k = q.2.2.2.length → k < fuel → TilR M t q → DrT M d → DrC M d (n0 + j) w h f → ∃ M', fn0_addTimes_b3 N fuel d t x2 x3 x4 (nI j) M = some ((), M') ∧ Fs (dW d) M M' ∧ DrC M' d (n0 + q.2.2.2.length) w h f := by
  intro k
  induction k with
  | zero =>
    intro j fuel M hj hfu tq dt dc
    obtain ⟨g, rfl⟩ : ∃ g, fuel = g + 1 := ⟨fuel - 1, by omega⟩
    refine ⟨M, ?_, fs_refl _ _, by rw [← hj]; exact dc⟩
    show fn0_addTimes_b3B N (fn0_addTimes_b3 N g) d t x2 x3 x4 (nI j) M = _
    unfold fn0_addTimes_b3B
    rw [k_til tq, nk_ck, tq.2.1.2.1, if_pos (nI_le (by omega) (by omega))]
  | succ k ih =>
    intro j fuel M hj hfu tq dt dc
    obtain ⟨g, rfl⟩ : ∃ g, fuel = g + 1 := ⟨fuel - 1, by omega⟩
    have hj' : j < q.2.2.2.length := by omega
    obtain ⟨M1, e1, f1, c1⟩ := dr_add dt dc (by omega) (hf j hj')
    obtain ⟨M2, e2, f2, c2⟩ := ih (j + 1) g M1 (by omega) (by omega) (tilr_dyn (fs_dyn f1 (dW_le hd)) tq) (drt_fs f1 dt) c1
    refine ⟨M2, ?_, fs_trans f1 f2, c2⟩
    obtain ⟨tK, ⟨tf, t4, t5, t6⟩, ⟨_, _, k7, l7⟩, ⟨_, _, k8, l8⟩, ⟨_, _, k9, l9⟩, x7, x8, x9⟩ := tq
    show fn0_addTimes_b3B N (fn0_addTimes_b3 N g) d t x2 x3 x4 (nI j) M = _
    unfold fn0_addTimes_b3B
    have hin : am_in (nI j) q.2.2.2.length = true := nk_in hj' (by omega)
    have hle : ¬ nI q.2.2.2.length ≤ nI j := nI_ge hj' (by omega)
    have hcl : (nI j).toNatClampNeg = j := nI_clamp (by omega)
    simp only [nk_k, tK.2.2, t4, hle, if_false, k7, k8, k9, l7, l8, l9, hin, hcl, x7 j hj', x8 j hj', x9 j hj', eq_self, decide_true, nk_ck, nk_ck, dt.1, e1, nk_bd, nI_1]
    exact e2
theorem dr_timesAll {N : Nat} (hN : 100000 ≤ N) {d n0 : Nat} (hd : d + 3 ≤ 141) {w h : Int32} (x2 x3 x4 : Int32) {f : Nat → Sq} {M : am_Mem} {t : Nat} {q : Rc} (hl : n0 + q.2.2.2.length ≤ 40) (hf : ∀ i, i < q.2.2.2.length → f (n0 + i) = (x3 + qX q.2.2.2 i * x2, x4 + qY q.2.2.2 i * x2, qS q.2.2.2 i * x2)) (tq : TilR M t q) (dt : DrT M d) (dc : DrC M d n0 w h f) :
    ∃ M', fn0_addTimes N M d t x2 x3 x4 = some ((), M') ∧ Fs (dW d) M M' ∧ DrC M' d (n0 + q.2.2.2.length) w h f :=
  dr_times (N := N) hd hl hf q.2.2.2.length 0 N M (by omega) (by omega) tq dt dc
