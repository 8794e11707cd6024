/-! pure: remove, ask, tidy, write, read, create side by side -/
theorem pu_10 : ¬ (1 : Int32) = 0 := by decide
theorem pt_pres (u : ts_S) {f : Nat} (hf : f < 16) : dt_isPresent u (nI f) = some (if u.2 2 f = 0 then 0 else 1, u) := by
  unfold dt_isPresent
  rw [pt_isF1 u hf]
  simp only [ts_b, pu_ix hf (by decide), pu_cl hf]
  rw [if_neg (by decide)]
  by_cases q : u.2 2 f = 0
  · rw [if_pos q, if_pos q]
  · rw [if_neg q, if_neg q]
theorem pt_pres0 (u : ts_S) {x : Int32} (h : x < 0 ∨ nI 16 ≤ x) : dt_isPresent u x = some (0, u) := by
  unfold dt_isPresent
  rw [pt_isF0 u h]
  rfl
theorem pm_pres (u : ts_S) {f : Nat} (hf : f < 16) : dm_there u (nI f) = some (if u.2 2 f = 0 then 0 else 1, u) := by
  unfold dm_there
  rw [pm_inF u hf]
  simp only [ts_b, pu_ix hf (by decide), pu_cl hf]
  rw [if_neg (by decide)]
  by_cases q : u.2 2 f = 0
  · rw [if_pos q, if_pos q]
  · rw [if_neg q, if_neg q]
theorem pm_pres0 (u : ts_S) {x : Int32} (h : x < 0 ∨ nI 16 ≤ x) : dm_there u x = some (0, u) := by
  unfold dm_there
  rw [pm_in0 u (y := 16) h]
  rfl
theorem wt_le {w w' : Nat → Int32} (h : ∀ i, w' i = w i ∨ w' i = 0) : ∀ n, wt w' n ≤ wt w n := by
  intro n
  induction n with
  | zero => exact Nat.le_refl _
  | succ n ih =>
    rw [wt_s, wt_s]
    rcases h n with q | q
    · rw [q]
      by_cases z : w n = 0
      · rw [if_pos z, if_pos z]; exact ih
      · rw [if_neg z, if_neg z]; omega
    · rw [if_pos q]
      by_cases z : w n = 0
      · rw [if_pos z]; exact ih
      · rw [if_neg z]; omega
theorem wt_one (w : Nat → Int32) (f : Nat) (x : Int32) : ∀ n, wt (upd w f x) n ≤ wt w n + 1 ∧ (n ≤ f → wt (upd w f x) n = wt w n) := by
  intro n
  induction n with
  | zero => exact ⟨by show (0 : Nat) ≤ 0 + 1; omega, fun _ => rfl⟩
  | succ n ih =>
    rw [wt_s, wt_s]
    by_cases e : n = f
    · have i2 := ih.2 (by omega)
      refine ⟨?_, fun q => absurd q (by omega)⟩
      rw [i2]
      by_cases z : upd w f x n = 0
      · rw [if_pos z]
        by_cases y : w n = 0
        · rw [if_pos y]; omega
        · rw [if_neg y]; omega
      · rw [if_neg z]
        by_cases y : w n = 0
        · rw [if_pos y]; omega
        · rw [if_neg y]; omega
    · have e2 : upd w f x n = w n := if_neg e
      rw [e2]
      by_cases z : w n = 0
      · rw [if_pos z, if_pos z]
        exact ⟨ih.1, fun q => ih.2 (by omega)⟩
      · rw [if_neg z, if_neg z]
        exact ⟨by have := ih.1; omega, fun q => by rw [ih.2 (by omega)]⟩
theorem sim_remove {u v : ts_S} (h : ri u v) (x : Int32) : ∃ r w z, dt_remove u x = some (r, w) ∧ dm_remove v x = some (r, z) ∧ ri w z := by
  have hr := h.1
  have e2 := rel_j hr (j := 2) (by decide) (by decide) (by decide) (by decide)
  unfold dt_remove dm_remove
  rcases pk_ix x (n := 16) (by decide) with q | q | ⟨f, hf, rfl⟩
  · rw [pt_pres0 u (Or.inl q), pm_pres0 v (Or.inl q)]
    exact ⟨_, _, _, rfl, rfl, h⟩
  · rw [pt_pres0 u (Or.inr q), pm_pres0 v (Or.inr q)]
    exact ⟨_, _, _, rfl, rfl, h⟩
  · rw [pt_pres u hf, pm_pres v hf, e2]
    simp only [ts_b, pu_ix hf (by decide), pu_cl hf]
    by_cases q : u.2 2 f = 0
    · rw [if_pos q, if_pos rfl, if_pos rfl]
      exact ⟨_, _, _, rfl, rfl, h⟩
    · rw [if_neg q, if_neg pu_10, if_neg pu_10]
      obtain ⟨L, E, N, C, P, hi⟩ := h.2
      refine ⟨_, _, _, rfl, rfl, rel_a (rel_a hr f 0 (by decide) (by decide)) f 0 (by decide) (by decide), L, E, N, C, P, ?_⟩
      refine iv_sub hi rfl hi.2.1 hi.2.2.1 rfl rfl rfl rfl (fun g _ z => ?_) (fun g _ z => ?_) ?_
      · have z' : upd (u.2 2) f 0 g = 2 ∨ upd (u.2 2) f 0 g = 3 := z
        by_cases e : g = f
        · have : upd (u.2 2) f 0 g = 0 := if_pos e
          rw [this] at z'
          rcases z' with z' | z' <;> exact absurd z' (by decide)
        · have : upd (u.2 2) f 0 g = u.2 2 g := if_neg e
          rw [this] at z'
          exact z'
      · have z' : ¬ upd (u.2 2) f 0 g = 0 := z
        by_cases e : g = f
        · exact absurd (if_pos e) z'
        · have : upd (u.2 2) f 0 g = u.2 2 g := if_neg e
          rw [this] at z'
          exact z'
      · refine Nat.le_trans (wt_le (w := u.2 7) (fun i => ?_) 16) hi.2.2.2.2.2.2.2
        by_cases e : i = f
        · exact Or.inr (if_pos e)
        · exact Or.inl (if_neg e)
theorem sim_ask {u v : ts_S} (h : ri u v) (x : Int32) : ∃ r w z, dt_ask u x = some (r, w) ∧ dm_ask v x = some (r, z) ∧ ri w z := by
  have hr := h.1
  have e2 := rel_j hr (j := 2) (by decide) (by decide) (by decide) (by decide)
  have e7 := rel_j hr (j := 7) (by decide) (by decide) (by decide) (by decide)
  unfold dt_ask dm_ask
  rcases pk_ix x (n := 16) (by decide) with q | q | ⟨f, hf, rfl⟩
  · rw [pt_pres0 u (Or.inl q), pm_pres0 v (Or.inl q)]
    exact ⟨_, _, _, rfl, rfl, h⟩
  · rw [pt_pres0 u (Or.inr q), pm_pres0 v (Or.inr q)]
    exact ⟨_, _, _, rfl, rfl, h⟩
  · rw [pt_pres u hf, pm_pres v hf, e2]
    simp only [ts_b, pu_ix hf (by decide), pu_cl hf, pt_wait, pm_wait, e2, e7]
    by_cases q : u.2 2 f = 0
    · rw [if_pos q, if_pos rfl, if_pos rfl]
      exact ⟨_, _, _, rfl, rfl, h⟩
    · rw [if_neg q, if_neg pu_10, if_neg pu_10]
      by_cases s3 : u.2 2 f = 3
      · rw [if_pos s3, if_pos s3]
        by_cases w0 : u.2 7 f = 0
        · rw [if_pos w0, if_pos w0]
          obtain ⟨L, E, N, C, P, hi⟩ := h.2
          have hw := hi.2.2.2.2.2.2.2
          by_cases w6 : wt (u.2 7) 16 = 6
          · rw [w6, if_neg (by decide), if_pos (by decide)]
            exact ⟨_, _, _, rfl, rfl, h⟩
          · have l6 : nI (wt (u.2 7) 16) < 6 := nI_lt (b := 6) (by omega) (by decide)
            have n6 : ¬ nI (wt (u.2 7) 16) = 6 := fun e => w6 ((nI_eq (b := 6) (by omega) (by decide)).mp e)
            rw [if_pos l6, if_neg n6]
            refine ⟨_, _, _, rfl, rfl, rel_a hr f 1 (by decide) (by decide), L, E, N, C, P, ?_⟩
            refine iv_sub hi rfl hi.2.1 hi.2.2.1 rfl rfl rfl rfl (fun g _ z => z) (fun g _ z => z) ?_
            have := (wt_one (u.2 7) f 1 16).1
            show wt (upd (u.2 7) f 1) 16 ≤ 6
            omega
        · rw [if_neg w0, if_neg w0]
          exact ⟨_, _, _, rfl, rfl, h⟩
      · rw [if_neg s3, if_neg s3]
        exact ⟨_, _, _, rfl, rfl, h⟩
theorem pt_isU0 (u : ts_S) {x : Int32} (h : x < 0 ∨ nI 25 ≤ x) : dt_isUnits u x = some (0, u) := by
  unfold dt_isUnits
  by_cases a : x < 0
  · rw [if_pos a]
  · rw [if_neg a]
    rcases h with h | h
    · exact absurd h a
    · rw [if_pos (Int32.lt_of_lt_of_le (show (24 : Int32) < nI 25 by decide) h)]
theorem pt_isU1 (u : ts_S) {j : Nat} (h : j < 25) : dt_isUnits u (nI j) = some (1, u) := by
  unfold dt_isUnits
  rw [if_neg (nI_pos (by omega)), if_neg (show ¬ (24 : Int32) < nI j from nI_nlt (a := 24) (b := j) (by omega) (by decide))]
theorem sim_tidy {u v : ts_S} (h : ri u v) (x y : Int32) : ∃ r w z, dt_tidy u x y = some (r, w) ∧ dm_tidy v x y = some (r, z) ∧ ri w z := by
  have hr := h.1
  have e2 := rel_j hr (j := 2) (by decide) (by decide) (by decide) (by decide)
  have e3 := rel_j hr (j := 3) (by decide) (by decide) (by decide) (by decide)
  have e8 := rel_j hr (j := 8) (by decide) (by decide) (by decide) (by decide)
  unfold dt_tidy dm_tidy
  have hx : ∀ z : Int32, ((z < 0 ∨ nI 25 ≤ z) ∨ ∃ j, j < 25 ∧ z = nI j) := fun z => by
    rcases pk_ix z (n := 25) (by decide) with q | q | q
    · exact Or.inl (Or.inl q)
    · exact Or.inl (Or.inr q)
    · exact Or.inr q
  rcases hx x with q | ⟨a, ha, rfl⟩
  · rw [pt_isU0 u q, pm_in0 v (y := 25) q]
    exact ⟨_, _, _, rfl, rfl, h⟩
  · rw [pt_isU1 u ha, pm_in1 v (x := nI a) (y := 25) (nI_pos (by omega)) (nI_ge (b := 25) ha (by decide))]
    simp only [ts_b]
    rw [if_neg pu_10, if_neg pu_10]
    rcases hx y with q | ⟨b, hb, rfl⟩
    · rw [pt_isU0 u q, pm_in0 v (y := 25) q]
      exact ⟨_, _, _, rfl, rfl, h⟩
    · rw [pt_isU1 u hb, pm_in1 v (x := nI b) (y := 25) (nI_pos (by omega)) (nI_ge (b := 25) hb (by decide))]
      simp only []
      rw [if_neg pu_10, if_neg pu_10]
      by_cases hl : nI b ≤ nI a
      · rw [if_pos hl, if_pos hl, pt_taken, pm_taken, e2, e3]
        simp only []
        by_cases ht : nI a < tk (u.2 2) (u.2 3) 16
        · rw [if_pos ht, if_neg (Int32.not_le.mpr ht)]
          have h1 := pt_td_l u (nI a) (nI b) 16 0 40 (u.2 2) rfl (by decide)
          have h2 := pm_td_l v (nI a) (nI b) 16 0 40 0 (v.2 2) rfl (by decide)
          rw [s2_self] at h1 h2
          rw [e2, e3, e8] at h2
          obtain ⟨L, E, N, C, P, hi⟩ := h.2
          refine ⟨_, _, _, h1, h2, rel_s2 hr _, L, E, N, C, P, iv_s2 hi (fun f _ => (pu_stub (td_in _ _ _ 16 (u.2 2) f)).1) (fun f _ => (pu_stub (td_in _ _ _ 16 (u.2 2) f)).2)⟩
        · rw [if_neg ht, if_pos (Int32.not_lt.mp ht)]
          have h2 := pm_td_0 v (nI a) (nI b) 0 16 0 40 rfl (by decide)
          exact ⟨_, _, _, rfl, h2, h⟩
      · rw [if_neg hl, if_neg hl]
        exact ⟨_, _, _, rfl, rfl, h⟩
/-- isCell on both sides: out of it, or the numbers of a cell -/
theorem sim_cell {u v : ts_S} (h : rel u v) {L : Nat} {E N C P : Nat → Nat} (hi : iv u L E N C P) (x y : Int32) :
    (dt_isCell u x y = some (0, u) ∧ (dm_there v x = some (0, v) ∨ ∃ f, f < 16 ∧ x = nI f ∧ dm_there v x = some (1, v) ∧ dm_in v y (v.2 3 f) = some (0, v))) ∨ ∃ f i, f < 16 ∧ i < 4 ∧ x = nI f ∧ y = nI i ∧ i < N f ∧ ¬ u.2 2 f = 0 ∧ dt_isCell u x y = some (1, u) ∧ dm_there v x = some (1, v) ∧ dm_in v y (v.2 3 f) = some (1, v) := by
  have e2 := rel_j h (j := 2) (by decide) (by decide) (by decide) (by decide)
  have e3 := rel_j h (j := 3) (by decide) (by decide) (by decide) (by decide)
  unfold dt_isCell
  rcases pk_ix x (n := 16) (by decide) with q | q | ⟨f, hf, rfl⟩
  · rw [pt_pres0 u (Or.inl q)]
    exact Or.inl ⟨rfl, Or.inl (pm_pres0 v (Or.inl q))⟩
  · rw [pt_pres0 u (Or.inr q)]
    exact Or.inl ⟨rfl, Or.inl (pm_pres0 v (Or.inr q))⟩
  · rw [pt_pres u hf]
    have hm := pm_pres v hf
    rw [e2] at hm
    simp only [ts_b, pu_ix hf (by decide), pu_cl hf]
    by_cases q : u.2 2 f = 0
    · rw [if_pos q] at hm ⊢
      exact Or.inl ⟨by rw [if_pos rfl], Or.inl hm⟩
    · rw [if_neg q] at hm ⊢
      rw [if_neg (by decide)]
      obtain ⟨n1, n2, n3⟩ := hi.2.2.2.2.1 f hf
      by_cases y0 : y < 0
      · rw [if_pos y0]
        exact Or.inl ⟨rfl, Or.inr ⟨f, hf, rfl, hm, pm_in0 v (Or.inl y0)⟩⟩
      · rw [if_neg y0]
        by_cases yn : u.2 3 f ≤ y
        · rw [if_pos yn]
          exact Or.inl ⟨rfl, Or.inr ⟨f, hf, rfl, hm, pm_in0 v (Or.inr (by rw [e3]; exact yn))⟩⟩
        · rw [if_neg yn]
          obtain ⟨i, hi2, rfl⟩ := nI_of y0
          have hin : i < N f := by
            rw [n2] at yn
            exact Nat.not_le.mp (fun z => yn (nI_le z hi2))
          exact Or.inr ⟨f, i, hf, by omega, rfl, rfl, hin, q, rfl, hm, pm_in1 v y0 (by rw [e3]; exact yn)⟩
theorem pu_ij {f i : Nat} (hf : f < 16) (hi : i < 4) : (nI f * 4 + nI i) = nI (f * 4 + i) := by
  have e : (4 : Int32) = nI 4 := rfl
  rw [e, pk_mul, nI_add]
theorem pu_clk {j : Nat} (h : j < 64) : (nI j).toNatClampNeg = j := nI_clamp (by omega)
theorem rel_cellr {u v : ts_S} (h : rel u v) {f i : Nat} (hf : f < 16) (hi : i < 4) : u.2 (20 + f) i = v.2 4 (f * 4 + i) := h.2.2.2.2 f i hf hi
theorem aw_j (u : ts_S) (f i : Nat) (x : Int32) {j : Nat} (h2 : j ≠ 2) (h20 : j < 20) : (ts_a 2 f 1 (ts_a (20 + f) i x u)).2 j = u.2 j := by
  have e1 : (ts_a 2 f 1 (ts_a (20 + f) i x u)).2 j = (ts_a (20 + f) i x u).2 j := if_neg h2
  rw [e1]
  exact if_neg (by omega)
/-- the end of write -/
theorem iv_w {u : ts_S} {L : Nat} {E N C P : Nat → Nat} (hi : iv u L E N C P) {f i : Nat} (x : Int32) (hz : ¬ u.2 2 f = 0) : iv (us f (ts_a 2 f 1 (ts_a (20 + f) i x u))) L E N C P := by
  refine iv_us (u := ts_a 2 f 1 (ts_a (20 + f) i x u)) (iv_sub hi rfl hi.2.1 hi.2.2.1 ?_ ?_ ?_ ?_ (fun g _ z => ?_) (fun g _ z => ?_) ?_) f
  · exact aw_j u f i x (by decide) (by decide)
  · exact aw_j u f i x (by decide) (by decide)
  · exact aw_j u f i x (by decide) (by decide)
  · exact aw_j u f i x (by decide) (by decide)
  · have e2 : (ts_a (20 + f) i x u).2 2 = u.2 2 := if_neg (by omega)
    have z' : upd ((ts_a (20 + f) i x u).2 2) f 1 g = 2 ∨ upd ((ts_a (20 + f) i x u).2 2) f 1 g = 3 := z
    rw [e2] at z'
    by_cases e : g = f
    · have : upd (u.2 2) f 1 g = 1 := if_pos e
      rw [this] at z'
      rcases z' with z' | z' <;> exact absurd z' (by decide)
    · have : upd (u.2 2) f 1 g = u.2 2 g := if_neg e
      rw [this] at z'
      exact z'
  · have e2 : (ts_a (20 + f) i x u).2 2 = u.2 2 := if_neg (by omega)
    have z' : ¬ upd ((ts_a (20 + f) i x u).2 2) f 1 g = 0 := z
    rw [e2] at z'
    by_cases e : g = f
    · rw [e]; exact hz
    · have : upd (u.2 2) f 1 g = u.2 2 g := if_neg e
      rw [this] at z'
      exact z'
  · rw [aw_j u f i x (by decide) (by decide)]
    exact hi.2.2.2.2.2.2.2
theorem sim_write {u v : ts_S} (h : ri u v) (x y a : Int32) : ∃ r w z, dt_write u x y a = some (r, w) ∧ dm_write v x y a = some (r, z) ∧ ri w z := by
  obtain ⟨hr, L, E, N, C, P, hi⟩ := h
  have hri : ri u v := ⟨hr, L, E, N, C, P, hi⟩
  have e2 := rel_j hr (j := 2) (by decide) (by decide) (by decide) (by decide)
  unfold dt_write dm_write
  rcases sim_cell hr hi x y with ⟨t1, t2 | ⟨f, hf, rfl, t2, t3⟩⟩ | ⟨f, i, hf, hi4, rfl, rfl, hin, hnz, t1, t2, t3⟩
  · rw [t1, t2]
    exact ⟨_, _, _, rfl, rfl, hri⟩
  · rw [t1, t2]
    simp only [ts_b, pu_ix hf (by decide), pu_cl hf]
    rw [if_pos trivial, if_neg pu_10, t3]
    exact ⟨_, _, _, rfl, rfl, hri⟩
  · have hk : f * 4 + i < 64 := by omega
    rw [t1, t2]
    simp only [ts_b, pu_ix hf (by decide), pu_cl hf, pu_ix hi4 (by decide), pu_cl (show i < 16 by omega), pu_ij hf hi4, pu_ix hk (by decide), pu_clk hk]
    rw [if_neg pu_10, if_neg pu_10, t3]
    simp only []
    rw [if_neg pu_10, e2]
    by_cases s4 : u.2 2 f = 4
    · rw [if_pos s4, if_pos s4]
      exact ⟨_, _, _, rfl, rfl, hri⟩
    · rw [if_neg s4, if_neg s4]
      by_cases s3 : u.2 2 f = 3
      · obtain ⟨r, w, z, r1, b1, b2, b3, b4, b5, b6, b7, b8, b9, b10⟩ := sim_bring hr hi hf s3
        rw [if_pos s3, b1, b2]
        simp only []
        rcases r1 with rfl | rfl
        · rw [if_pos rfl, if_pos rfl]
          exact ⟨_, _, _, rfl, rfl, b3, L, E, N, C, P, b4⟩
        · rw [if_neg pu_10, if_neg pu_10, pt_use _ hf, pm_use _ hf]
          have w2 : w.2 2 f = 2 := by
            rcases b9 with q | q
            · exact absurd q (by decide)
            · exact q
          exact ⟨_, _, _, rfl, rfl, rel_us (rel_a (rel_cell b3 a hf hi4) f 1 (by decide) (by decide)) f, L, E, N, C, P, iv_w b4 a (by rw [w2]; decide)⟩
      · have b1 : dt_bringToDisk u (nI f) = some (1, u) := by
          unfold dt_bringToDisk
          simp only [pu_ix hf (by decide), pu_cl hf]
          rw [if_neg s3]
        rw [if_neg s3, b1]
        simp only []
        rw [if_neg (by decide), pt_use _ hf, pm_use _ hf]
        exact ⟨_, _, _, rfl, rfl, rel_us (rel_a (rel_cell hr a hf hi4) f 1 (by decide) (by decide)) f, L, E, N, C, P, iv_w hi a hnz⟩
theorem sim_read {u v : ts_S} (h : ri u v) (x y : Int32) : ∃ r w z, dt_read u x y = some (r, w) ∧ dm_read v x y = some (r, z) ∧ ri w z := by
  obtain ⟨hr, L, E, N, C, P, hi⟩ := h
  have hri : ri u v := ⟨hr, L, E, N, C, P, hi⟩
  have e2 := rel_j hr (j := 2) (by decide) (by decide) (by decide) (by decide)
  unfold dt_read dm_read
  rcases sim_cell hr hi x y with ⟨t1, t2 | ⟨f, hf, rfl, t2, t3⟩⟩ | ⟨f, i, hf, hi4, rfl, rfl, hin, hnz, t1, t2, t3⟩
  · rw [t1, t2]
    exact ⟨_, _, _, rfl, rfl, hri⟩
  · rw [t1, t2]
    simp only [ts_b, pu_ix hf (by decide), pu_cl hf]
    rw [if_pos trivial, if_neg pu_10, t3]
    exact ⟨_, _, _, rfl, rfl, hri⟩
  · have hk : f * 4 + i < 64 := by omega
    rw [t1, t2]
    simp only [ts_b, pu_ix hf (by decide), pu_cl hf, pu_ix hi4 (by decide), pu_cl (show i < 16 by omega), pu_ij hf hi4, pu_ix hk (by decide), pu_clk hk]
    rw [if_neg pu_10, if_neg pu_10, t3]
    simp only []
    rw [if_neg pu_10, e2]
    by_cases s4 : u.2 2 f = 4
    · rw [if_pos s4, if_pos s4]
      exact ⟨_, _, _, rfl, rfl, hri⟩
    · rw [if_neg s4, if_neg s4]
      by_cases s3 : u.2 2 f = 3
      · obtain ⟨r, w, z, r1, b1, b2, b3, b4, b5, b6, b7, b8, b9, b10⟩ := sim_bring hr hi hf s3
        rw [if_pos s3, b1, b2]
        simp only []
        rcases r1 with rfl | rfl
        · rw [if_pos rfl, if_pos rfl]
          exact ⟨_, _, _, rfl, rfl, b3, L, E, N, C, P, b4⟩
        · rw [if_neg pu_10, if_neg pu_10, pt_use _ hf, pm_use _ hf]
          have hu := rel_us b3 f
          exact ⟨_, _, _, rfl, by simp only []; rw [← rel_cellr hu hf hi4], hu, L, E, N, C, P, iv_us b4 f⟩
      · have b1 : dt_bringToDisk u (nI f) = some (1, u) := by
          unfold dt_bringToDisk
          simp only [pu_ix hf (by decide), pu_cl hf]
          rw [if_neg s3]
        rw [if_neg s3, b1]
        simp only []
        rw [if_neg (by decide), pt_use _ hf, pm_use _ hf]
        have hu := rel_us hr f
        exact ⟨_, _, _, rfl, by simp only []; rw [← rel_cellr hu hf hi4], hu, L, E, N, C, P, iv_us hi f⟩
