/-! pure: calls side by side -/
theorem ts_bs {β α : Type} (r : β) (u : ts_S) (k : β → ts_S → Option α) : ts_b (some (r, u)) k = k r u := rfl
theorem zz_1_0 : ((1 : Int32) = 0) = False := eq_false (by decide)
theorem zz_2_0 : ((2 : Int32) = 0) = False := eq_false (by decide)
theorem zz_2_1 : ((2 : Int32) = 1) = False := eq_false (by decide)
theorem zz_3_0 : ((3 : Int32) = 0) = False := eq_false (by decide)
theorem zz_3_1 : ((3 : Int32) = 1) = False := eq_false (by decide)
theorem zz_3_2 : ((3 : Int32) = 2) = False := eq_false (by decide)
theorem zz_4_0 : ((4 : Int32) = 0) = False := eq_false (by decide)
theorem zz_4_1 : ((4 : Int32) = 1) = False := eq_false (by decide)
theorem zz_4_2 : ((4 : Int32) = 2) = False := eq_false (by decide)
theorem zz_4_3 : ((4 : Int32) = 3) = False := eq_false (by decide)
theorem zz_5_0 : ((5 : Int32) = 0) = False := eq_false (by decide)
theorem zz_5_1 : ((5 : Int32) = 1) = False := eq_false (by decide)
theorem zz_5_2 : ((5 : Int32) = 2) = False := eq_false (by decide)
theorem zz_5_3 : ((5 : Int32) = 3) = False := eq_false (by decide)
theorem zz_5_4 : ((5 : Int32) = 4) = False := eq_false (by decide)
theorem zz_1_2 : ((1 : Int32) = 2) = False := eq_false (by decide)
theorem rel_j {u v : ts_S} (h : rel u v) {j : Nat} (h4 : j ≠ 4) (h9 : j ≠ 9) (h11 : j ≠ 11) (h20 : j < 20) : v.2 j = u.2 j := (h.2.2.2.1 j h4 h9 h11 h20).symm
theorem rel_k {u v : ts_S} (h : rel u v) {k : Nat} (h2 : k ≠ 2) (h5 : k ≠ 5) : v.1 k = u.1 k := (h.1 k h2 h5).symm
theorem lu_rel {u v : ts_S} (h : rel u v) (c : Int32) : ∀ n, lu v c n = lu u c n := by
  intro n
  induction n with
  | zero => rfl
  | succ n ih =>
    have e2 := rel_j h (j := 2) (by decide) (by decide) (by decide) (by decide)
    have e3 := rel_j h (j := 3) (by decide) (by decide) (by decide) (by decide)
    have e5 := rel_j h (j := 5) (by decide) (by decide) (by decide) (by decide)
    by_cases q : lc u c n
    · have q' : lc v c n := by unfold lc at q ⊢; rw [e2, e5]; exact q
      rw [lu_p q, lu_p q', ih, e3]
    · have q' : ¬ lc v c n := by unfold lc at q ⊢; rw [e2, e5]; exact q
      rw [lu_n q, lu_n q', ih]
theorem sim_count {u v : ts_S} (h : ri u v) (x : Int32) : ∃ r w z, dt_count u x = some (r, w) ∧ dm_count v x = some (r, z) ∧ ri w z := by
  have hr := h.1
  have e2 := rel_j hr (j := 2) (by decide) (by decide) (by decide) (by decide)
  have e3 := rel_j hr (j := 3) (by decide) (by decide) (by decide) (by decide)
  have e7 := rel_j hr (j := 7) (by decide) (by decide) (by decide) (by decide)
  have k4 := rel_k hr (k := 4) (by decide) (by decide)
  have k6 := rel_k hr (k := 6) (by decide) (by decide)
  unfold dt_count dm_count
  rw [pt_taken, pm_taken, pt_wait, pm_wait, e2, e3, e7, k4, k6]
  simp only [ts_b]
  by_cases c0 : x = 0
  · rw [if_pos c0, if_pos c0]
    exact ⟨_, _, _, rfl, rfl, h⟩
  rw [if_neg c0, if_neg c0]
  by_cases c1 : x = 1
  · rw [if_pos c1, if_pos c1]
    exact ⟨_, _, _, rfl, rfl, h⟩
  rw [if_neg c1, if_neg c1]
  by_cases c2 : x = 2
  · rw [if_pos c2, if_pos c2]
    obtain ⟨L, E, N, C, P, hi⟩ := h.2
    rcases hi.2.1 with q | ⟨c, hc, q⟩
    · rw [if_neg (by rw [q]; decide)]
      exact ⟨_, _, _, rfl, by rw [hr.2.2.1 q], h⟩
    · rw [if_pos (by rw [q]; exact nI_pos' (by omega))]
      exact ⟨_, _, _, rfl, by rw [hr.2.1 (by rw [q]; exact pu_m1 (by omega))], h⟩
  rw [if_neg c2, if_neg c2]
  by_cases c3 : x = 3
  · rw [if_pos c3, if_pos c3]
    exact ⟨_, _, _, rfl, rfl, h⟩
  rw [if_neg c3, if_neg c3]
  exact ⟨_, _, _, rfl, rfl, h⟩
set_option maxHeartbeats 40000 in
theorem sc_T0 (u : ts_S) {c : Nat} (hc : c < 4) : dt_cartridge u (nI c) 0 = some (u.2 10 c, u) := by
  unfold dt_cartridge
  rw [pt_isC1 u hc]
  rw [ts_bs, if_neg (by decide), if_pos rfl, pu_ix hc (by decide), pu_cl (show c < 16 by omega)]
set_option maxHeartbeats 40000 in
theorem sc_T1 (u : ts_S) {c : Nat} (hc : c < 4) : dt_cartridge u (nI c) 1 = some (lu u (nI c) 16, u) := by
  unfold dt_cartridge
  rw [pt_isC1 u hc]
  rw [ts_bs, if_neg (by decide), if_neg (by decide), if_pos rfl, pt_lu, ts_bs]
set_option maxHeartbeats 40000 in
theorem sc_T2 (u : ts_S) {c : Nat} (hc : c < 4) : dt_cartridge u (nI c) 2 = some (if u.1 4 = nI c then 1 else 0, u) := by
  unfold dt_cartridge
  rw [pt_isC1 u hc]
  rw [ts_bs, if_neg (by decide), if_neg (by decide), if_neg (by decide), if_pos rfl]
  by_cases q : u.1 4 = nI c
  · rw [if_pos q, if_pos q]
  · rw [if_neg q, if_neg q]
set_option maxHeartbeats 40000 in
theorem sc_Tn (u : ts_S) {c : Nat} (hc : c < 4) {y : Int32} (c0 : ¬ y = 0) (c1 : ¬ y = 1) (c2 : ¬ y = 2) : dt_cartridge u (nI c) y = some (-1, u) := by
  unfold dt_cartridge
  rw [pt_isC1 u hc]
  rw [ts_bs, if_neg (by decide), if_neg c0, if_neg c1, if_neg c2]
set_option maxHeartbeats 40000 in
theorem sc_M0 (u : ts_S) {c : Nat} (hc : c < 4) : dm_cartridge u (nI c) 0 = some (u.2 10 c, u) := by
  unfold dm_cartridge
  rw [pm_inC u hc]
  rw [ts_bs, if_neg (by decide), pm_in1 u (x := 0) (y := 3) (by decide) (by decide)]
  rw [ts_bs, if_neg (by decide), if_pos rfl, pu_ix hc (by decide), pu_cl (show c < 16 by omega)]
set_option maxHeartbeats 40000 in
theorem sc_M1 (u : ts_S) {c : Nat} (hc : c < 4) : dm_cartridge u (nI c) 1 = some (lu u (nI c) 16, u) := by
  unfold dm_cartridge
  rw [pm_inC u hc]
  rw [ts_bs, if_neg (by decide), pm_in1 u (x := 1) (y := 3) (by decide) (by decide)]
  rw [ts_bs, if_neg (by decide), if_neg (by decide), if_neg (by decide), pm_lu]
set_option maxHeartbeats 40000 in
theorem sc_M2 (u : ts_S) {c : Nat} (hc : c < 4) : dm_cartridge u (nI c) 2 = some (if u.1 4 = nI c then 1 else 0, u) := by
  unfold dm_cartridge
  rw [pm_inC u hc]
  rw [ts_bs, if_neg (by decide), pm_in1 u (x := 2) (y := 3) (by decide) (by decide)]
  rw [ts_bs, if_neg (by decide), if_neg (by decide), if_pos rfl]
  by_cases q : u.1 4 = nI c
  · rw [if_pos q, if_pos q]
  · rw [if_neg q, if_neg q]
set_option maxHeartbeats 40000 in
theorem sc_Mn (u : ts_S) {c : Nat} (hc : c < 4) {y : Int32} (hy : y < 0 ∨ (3 : Int32) ≤ y) : dm_cartridge u (nI c) y = some (-1, u) := by
  unfold dm_cartridge
  rw [pm_inC u hc]
  rw [ts_bs, if_neg (by decide), pm_in0 u hy]
  rw [ts_bs, if_pos rfl]
set_option maxHeartbeats 40000 in
theorem sc_T_ (u : ts_S) {x : Int32} (y : Int32) (h : x < 0 ∨ nI 4 ≤ x) : dt_cartridge u x y = some (-1, u) := by
  unfold dt_cartridge
  rw [pt_isC0 u h]
  rw [ts_bs, if_pos rfl]
set_option maxHeartbeats 40000 in
theorem sc_M_ (u : ts_S) {x : Int32} (y : Int32) (h : x < 0 ∨ nI 4 ≤ x) : dm_cartridge u x y = some (-1, u) := by
  unfold dm_cartridge
  rw [pm_in0 u (y := 4) h]
  rw [ts_bs, if_pos rfl]
set_option maxHeartbeats 40000 in
theorem sim_cartridge {u v : ts_S} (h : ri u v) (x y : Int32) : ∃ r w z, dt_cartridge u x y = some (r, w) ∧ dm_cartridge v x y = some (r, z) ∧ ri w z := by
  have hr := h.1
  have e10 := rel_j hr (j := 10) (by decide) (by decide) (by decide) (by decide)
  have k4 := rel_k hr (k := 4) (by decide) (by decide)
  rcases pk_ix x (n := 4) (by decide) with q | q | ⟨c, hc, rfl⟩
  · exact ⟨_, _, _, sc_T_ u y (Or.inl q), sc_M_ v y (Or.inl q), h⟩
  · exact ⟨_, _, _, sc_T_ u y (Or.inr q), sc_M_ v y (Or.inr q), h⟩
  · by_cases c0 : y = 0
    · subst c0
      exact ⟨_, _, _, sc_T0 u hc, by rw [sc_M0 v hc, e10], h⟩
    by_cases c1 : y = 1
    · subst c1
      exact ⟨_, _, _, sc_T1 u hc, by rw [sc_M1 v hc, lu_rel hr], h⟩
    by_cases c2 : y = 2
    · subst c2
      exact ⟨_, _, _, sc_T2 u hc, by rw [sc_M2 v hc, k4], h⟩
    have hy : y < 0 ∨ (3 : Int32) ≤ y := by
      rcases pk_ix y (n := 3) (by decide) with q | q | ⟨j, hj, rfl⟩
      · exact Or.inl q
      · exact Or.inr q
      · rcases (show j = 0 ∨ j = 1 ∨ j = 2 by omega) with rfl | rfl | rfl
        · exact absurd rfl c0
        · exact absurd rfl c1
        · exact absurd rfl c2
    exact ⟨_, _, _, sc_Tn u hc c0 c1 c2, sc_Mn v hc hy, h⟩
theorem sim_file {u v : ts_S} (h : ri u v) (x y : Int32) : ∃ r w z, dt_file u x y = some (r, w) ∧ dm_file v x y = some (r, z) ∧ ri w z := by
  have hr := h.1
  have e2 := rel_j hr (j := 2) (by decide) (by decide) (by decide) (by decide)
  have e3 := rel_j hr (j := 3) (by decide) (by decide) (by decide) (by decide)
  have e5 := rel_j hr (j := 5) (by decide) (by decide) (by decide) (by decide)
  have e6 := rel_j hr (j := 6) (by decide) (by decide) (by decide) (by decide)
  have e7 := rel_j hr (j := 7) (by decide) (by decide) (by decide) (by decide)
  have e8 := rel_j hr (j := 8) (by decide) (by decide) (by decide) (by decide)
  have fin : ∀ {a b : Option (Int32 × ts_S)} {r : Int32}, a = some (r, u) → b = some (r, v) → ∃ r w z, a = some (r, w) ∧ b = some (r, z) ∧ ri w z := fun h1 h2 => ⟨_, _, _, h1, h2, h⟩
  rcases pk_ix x (n := 16) (by decide) with q | q | ⟨f, hf, rfl⟩
  · exact fin (r := -1) (by unfold dt_file; rw [pt_isF0 u (Or.inl q)]; rfl) (by unfold dm_file; rw [pm_in0 v (Or.inl q)]; rfl)
  · exact fin (r := -1) (by unfold dt_file; rw [pt_isF0 u (Or.inr q)]; rfl) (by unfold dm_file; rw [pm_in0 v (y := 16) (Or.inr q)]; rfl)
  · have ix : ∀ t : Option (Int32 × ts_S), ts_ix (nI f) 16 t = t := fun t => pu_ix hf (by decide) t
    have cl := pu_cl hf
    by_cases c0 : y = 0
    · subst c0
      refine fin (r := u.2 2 f) ?_ ?_
      · unfold dt_file
        rw [pt_isF1 u hf]
        by_cases q : u.2 2 f = 0
        · simp only [ts_b, zz_1_0, zz_2_0, zz_2_1, zz_3_0, zz_3_1, zz_3_2, zz_4_0, zz_4_1, zz_4_2, zz_4_3, zz_5_0, zz_5_1, zz_5_2, zz_5_3, zz_5_4, zz_1_2, ↓reduceIte, ix, cl, q]
        · simp only [ts_b, zz_1_0, zz_2_0, zz_2_1, zz_3_0, zz_3_1, zz_3_2, zz_4_0, zz_4_1, zz_4_2, zz_4_3, zz_5_0, zz_5_1, zz_5_2, zz_5_3, zz_5_4, zz_1_2, ↓reduceIte, ix, cl, q]
      · unfold dm_file
        rw [pm_inF v hf]
        simp only [ts_b, zz_1_0, zz_2_0, zz_2_1, zz_3_0, zz_3_1, zz_3_2, zz_4_0, zz_4_1, zz_4_2, zz_4_3, zz_5_0, zz_5_1, zz_5_2, zz_5_3, zz_5_4, zz_1_2, ↓reduceIte, ix, cl, e2, pm_in1 v (x := 0) (y := 6) (by decide) (by decide)]
    by_cases c1 : y = 1
    · subst c1
      by_cases q : u.2 2 f = 0
      · refine fin (r := 0) ?_ ?_
        · unfold dt_file
          rw [pt_isF1 u hf]
          simp only [ts_b, zz_1_0, zz_2_0, zz_2_1, zz_3_0, zz_3_1, zz_3_2, zz_4_0, zz_4_1, zz_4_2, zz_4_3, zz_5_0, zz_5_1, zz_5_2, zz_5_3, zz_5_4, zz_1_2, ↓reduceIte, ix, cl, q]
        · unfold dm_file
          rw [pm_inF v hf]
          simp only [ts_b, zz_1_0, zz_2_0, zz_2_1, zz_3_0, zz_3_1, zz_3_2, zz_4_0, zz_4_1, zz_4_2, zz_4_3, zz_5_0, zz_5_1, zz_5_2, zz_5_3, zz_5_4, zz_1_2, ↓reduceIte, ix, cl, e2, q, pm_in1 v (x := 1) (y := 6) (by decide) (by decide)]
      · refine fin (r := u.2 3 f) ?_ ?_
        · unfold dt_file
          rw [pt_isF1 u hf]
          simp only [ts_b, zz_1_0, zz_2_0, zz_2_1, zz_3_0, zz_3_1, zz_3_2, zz_4_0, zz_4_1, zz_4_2, zz_4_3, zz_5_0, zz_5_1, zz_5_2, zz_5_3, zz_5_4, zz_1_2, ↓reduceIte, ix, cl, q]
        · unfold dm_file
          rw [pm_inF v hf]
          simp only [ts_b, zz_1_0, zz_2_0, zz_2_1, zz_3_0, zz_3_1, zz_3_2, zz_4_0, zz_4_1, zz_4_2, zz_4_3, zz_5_0, zz_5_1, zz_5_2, zz_5_3, zz_5_4, zz_1_2, ↓reduceIte, ix, cl, e2, e3, q, pm_in1 v (x := 1) (y := 6) (by decide) (by decide)]
    by_cases c2 : y = 2
    · subst c2
      by_cases l : u.2 2 f = 2 ∨ u.2 2 f = 3
      · have q : ¬ u.2 2 f = 0 := by rcases l with l | l <;> rw [l] <;> decide
        refine fin (r := u.2 5 f) ?_ ?_
        · unfold dt_file
          rw [pt_isF1 u hf]
          simp only [ts_b, zz_1_0, zz_2_0, zz_2_1, zz_3_0, zz_3_1, zz_3_2, zz_4_0, zz_4_1, zz_4_2, zz_4_3, zz_5_0, zz_5_1, zz_5_2, zz_5_3, zz_5_4, zz_1_2, ↓reduceIte, ix, cl, q, pt_hasCopy u hf, if_pos l]
        · unfold dm_file
          rw [pm_inF v hf]
          simp only [ts_b, zz_1_0, zz_2_0, zz_2_1, zz_3_0, zz_3_1, zz_3_2, zz_4_0, zz_4_1, zz_4_2, zz_4_3, zz_5_0, zz_5_1, zz_5_2, zz_5_3, zz_5_4, zz_1_2, ↓reduceIte, ix, cl, e5, pm_copied v hf, e2, if_pos l, pm_in1 v (x := 2) (y := 6) (by decide) (by decide)]
      · refine fin (r := -1) ?_ ?_
        · unfold dt_file
          rw [pt_isF1 u hf]
          by_cases q : u.2 2 f = 0
          · simp only [ts_b, zz_1_0, zz_2_0, zz_2_1, zz_3_0, zz_3_1, zz_3_2, zz_4_0, zz_4_1, zz_4_2, zz_4_3, zz_5_0, zz_5_1, zz_5_2, zz_5_3, zz_5_4, zz_1_2, ↓reduceIte, ix, cl, if_pos q, pt_hasCopy u hf, if_neg l]
          · simp only [ts_b, zz_1_0, zz_2_0, zz_2_1, zz_3_0, zz_3_1, zz_3_2, zz_4_0, zz_4_1, zz_4_2, zz_4_3, zz_5_0, zz_5_1, zz_5_2, zz_5_3, zz_5_4, zz_1_2, ↓reduceIte, ix, cl, q, pt_hasCopy u hf, if_neg l]
        · unfold dm_file
          rw [pm_inF v hf]
          simp only [ts_b, zz_1_0, zz_2_0, zz_2_1, zz_3_0, zz_3_1, zz_3_2, zz_4_0, zz_4_1, zz_4_2, zz_4_3, zz_5_0, zz_5_1, zz_5_2, zz_5_3, zz_5_4, zz_1_2, ↓reduceIte, ix, cl, pm_copied v hf, e2, if_neg l, pm_in1 v (x := 2) (y := 6) (by decide) (by decide)]
    by_cases c3 : y = 3
    · subst c3
      by_cases l : u.2 2 f = 2 ∨ u.2 2 f = 3
      · have q : ¬ u.2 2 f = 0 := by rcases l with l | l <;> rw [l] <;> decide
        refine fin (r := u.2 6 f) ?_ ?_
        · unfold dt_file
          rw [pt_isF1 u hf]
          simp only [ts_b, zz_1_0, zz_2_0, zz_2_1, zz_3_0, zz_3_1, zz_3_2, zz_4_0, zz_4_1, zz_4_2, zz_4_3, zz_5_0, zz_5_1, zz_5_2, zz_5_3, zz_5_4, zz_1_2, ↓reduceIte, ix, cl, q, pt_hasCopy u hf, if_pos l]
        · unfold dm_file
          rw [pm_inF v hf]
          simp only [ts_b, zz_1_0, zz_2_0, zz_2_1, zz_3_0, zz_3_1, zz_3_2, zz_4_0, zz_4_1, zz_4_2, zz_4_3, zz_5_0, zz_5_1, zz_5_2, zz_5_3, zz_5_4, zz_1_2, ↓reduceIte, ix, cl, e6, pm_copied v hf, e2, if_pos l, pm_in1 v (x := 3) (y := 6) (by decide) (by decide)]
      · refine fin (r := -1) ?_ ?_
        · unfold dt_file
          rw [pt_isF1 u hf]
          by_cases q : u.2 2 f = 0
          · simp only [ts_b, zz_1_0, zz_2_0, zz_2_1, zz_3_0, zz_3_1, zz_3_2, zz_4_0, zz_4_1, zz_4_2, zz_4_3, zz_5_0, zz_5_1, zz_5_2, zz_5_3, zz_5_4, zz_1_2, ↓reduceIte, ix, cl, if_pos q, pt_hasCopy u hf, if_neg l]
          · simp only [ts_b, zz_1_0, zz_2_0, zz_2_1, zz_3_0, zz_3_1, zz_3_2, zz_4_0, zz_4_1, zz_4_2, zz_4_3, zz_5_0, zz_5_1, zz_5_2, zz_5_3, zz_5_4, zz_1_2, ↓reduceIte, ix, cl, q, pt_hasCopy u hf, if_neg l]
        · unfold dm_file
          rw [pm_inF v hf]
          simp only [ts_b, zz_1_0, zz_2_0, zz_2_1, zz_3_0, zz_3_1, zz_3_2, zz_4_0, zz_4_1, zz_4_2, zz_4_3, zz_5_0, zz_5_1, zz_5_2, zz_5_3, zz_5_4, zz_1_2, ↓reduceIte, ix, cl, pm_copied v hf, e2, if_neg l, pm_in1 v (x := 3) (y := 6) (by decide) (by decide)]
    by_cases c4 : y = 4
    · subst c4
      by_cases w : u.2 7 f = 0
      · refine fin (r := 0) ?_ ?_
        · unfold dt_file
          rw [pt_isF1 u hf]
          by_cases q : u.2 2 f = 0
          · simp only [ts_b, zz_1_0, zz_2_0, zz_2_1, zz_3_0, zz_3_1, zz_3_2, zz_4_0, zz_4_1, zz_4_2, zz_4_3, zz_5_0, zz_5_1, zz_5_2, zz_5_3, zz_5_4, zz_1_2, ↓reduceIte, ix, cl, q, w]
          · simp only [ts_b, zz_1_0, zz_2_0, zz_2_1, zz_3_0, zz_3_1, zz_3_2, zz_4_0, zz_4_1, zz_4_2, zz_4_3, zz_5_0, zz_5_1, zz_5_2, zz_5_3, zz_5_4, zz_1_2, ↓reduceIte, ix, cl, q, w]
        · unfold dm_file
          rw [pm_inF v hf]
          simp only [ts_b, zz_1_0, zz_2_0, zz_2_1, zz_3_0, zz_3_1, zz_3_2, zz_4_0, zz_4_1, zz_4_2, zz_4_3, zz_5_0, zz_5_1, zz_5_2, zz_5_3, zz_5_4, zz_1_2, ↓reduceIte, ix, cl, e7, w, pm_in1 v (x := 4) (y := 6) (by decide) (by decide)]
      · refine fin (r := 1) ?_ ?_
        · unfold dt_file
          rw [pt_isF1 u hf]
          by_cases q : u.2 2 f = 0
          · simp only [ts_b, zz_1_0, zz_2_0, zz_2_1, zz_3_0, zz_3_1, zz_3_2, zz_4_0, zz_4_1, zz_4_2, zz_4_3, zz_5_0, zz_5_1, zz_5_2, zz_5_3, zz_5_4, zz_1_2, ↓reduceIte, ix, cl, q, w]
          · simp only [ts_b, zz_1_0, zz_2_0, zz_2_1, zz_3_0, zz_3_1, zz_3_2, zz_4_0, zz_4_1, zz_4_2, zz_4_3, zz_5_0, zz_5_1, zz_5_2, zz_5_3, zz_5_4, zz_1_2, ↓reduceIte, ix, cl, q, w]
        · unfold dm_file
          rw [pm_inF v hf]
          simp only [ts_b, zz_1_0, zz_2_0, zz_2_1, zz_3_0, zz_3_1, zz_3_2, zz_4_0, zz_4_1, zz_4_2, zz_4_3, zz_5_0, zz_5_1, zz_5_2, zz_5_3, zz_5_4, zz_1_2, ↓reduceIte, ix, cl, e7, w, pm_in1 v (x := 4) (y := 6) (by decide) (by decide)]
    by_cases c5 : y = 5
    · subst c5
      by_cases q : u.2 2 f = 0
      · refine fin (r := -1) ?_ ?_
        · unfold dt_file
          rw [pt_isF1 u hf]
          simp only [ts_b, zz_1_0, zz_2_0, zz_2_1, zz_3_0, zz_3_1, zz_3_2, zz_4_0, zz_4_1, zz_4_2, zz_4_3, zz_5_0, zz_5_1, zz_5_2, zz_5_3, zz_5_4, zz_1_2, ↓reduceIte, ix, cl, q]
        · unfold dm_file
          rw [pm_inF v hf]
          simp only [ts_b, zz_1_0, zz_2_0, zz_2_1, zz_3_0, zz_3_1, zz_3_2, zz_4_0, zz_4_1, zz_4_2, zz_4_3, zz_5_0, zz_5_1, zz_5_2, zz_5_3, zz_5_4, zz_1_2, ↓reduceIte, ix, cl, e2, q, pm_in1 v (x := 5) (y := 6) (by decide) (by decide)]
      · refine fin (r := ul (u.2 2) (u.2 8) (u.2 8 f) 16) ?_ ?_
        · unfold dt_file
          rw [pt_isF1 u hf]
          simp only [ts_b, zz_1_0, zz_2_0, zz_2_1, zz_3_0, zz_3_1, zz_3_2, zz_4_0, zz_4_1, zz_4_2, zz_4_3, zz_5_0, zz_5_1, zz_5_2, zz_5_3, zz_5_4, zz_1_2, ↓reduceIte, ix, cl, q, pt_ul u hf]
        · unfold dm_file
          rw [pm_inF v hf]
          simp only [ts_b, zz_1_0, zz_2_0, zz_2_1, zz_3_0, zz_3_1, zz_3_2, zz_4_0, zz_4_1, zz_4_2, zz_4_3, zz_5_0, zz_5_1, zz_5_2, zz_5_3, zz_5_4, zz_1_2, ↓reduceIte, ix, cl, e2, q, pm_in1 v (x := 5) (y := 6) (by decide) (by decide)]
          have := pm_ul v hf 5
          rw [e2, e8] at this
          exact this
    have hy : y < 0 ∨ (6 : Int32) ≤ y := by
      rcases pk_ix y (n := 6) (by decide) with q | q | ⟨j, hj, rfl⟩
      · exact Or.inl q
      · exact Or.inr q
      · rcases (show j = 0 ∨ j = 1 ∨ j = 2 ∨ j = 3 ∨ j = 4 ∨ j = 5 by omega) with rfl | rfl | rfl | rfl | rfl | rfl
        · exact absurd rfl c0
        · exact absurd rfl c1
        · exact absurd rfl c2
        · exact absurd rfl c3
        · exact absurd rfl c4
        · exact absurd rfl c5
    refine fin (r := -1) ?_ ?_
    · unfold dt_file
      rw [pt_isF1 u hf]
      by_cases q : u.2 2 f = 0
      · simp only [ts_b, zz_1_0, zz_2_0, zz_2_1, zz_3_0, zz_3_1, zz_3_2, zz_4_0, zz_4_1, zz_4_2, zz_4_3, zz_5_0, zz_5_1, zz_5_2, zz_5_3, zz_5_4, zz_1_2, ↓reduceIte, ix, cl, q, c0, c1, c2, c3, c4, c5]
      · simp only [ts_b, zz_1_0, zz_2_0, zz_2_1, zz_3_0, zz_3_1, zz_3_2, zz_4_0, zz_4_1, zz_4_2, zz_4_3, zz_5_0, zz_5_1, zz_5_2, zz_5_3, zz_5_4, zz_1_2, ↓reduceIte, ix, cl, q, c0, c1, c2, c3, c4, c5]
    · unfold dm_file
      rw [pm_inF v hf]
      simp only [ts_b, zz_1_0, zz_2_0, zz_2_1, zz_3_0, zz_3_1, zz_3_2, zz_4_0, zz_4_1, zz_4_2, zz_4_3, zz_5_0, zz_5_1, zz_5_2, zz_5_3, zz_5_4, zz_1_2, ↓reduceIte, pm_in0 v hy]
