/-! pure: the calls side by side (all but serve and empty) -/
def ri (u v : ts_S) : Prop := rel u v ∧ ∃ (L : Nat) (E N C P : Nat → Nat), iv u L E N C P
theorem pt_isF0 (u : ts_S) {x : Int32} (h : x < 0 ∨ nI 16 ≤ x) : dt_isFileNumber u x = some (0, u) := by
  unfold dt_isFileNumber
  by_cases a : x < 0
  · rw [if_pos a]
  · rw [if_neg a]
    rcases h with h | h
    · exact absurd h a
    · rw [if_pos (show (16 : Int32) ≤ x from h)]
theorem pt_isF1 (u : ts_S) {j : Nat} (h : j < 16) : dt_isFileNumber u (nI j) = some (1, u) := by
  unfold dt_isFileNumber
  rw [if_neg (nI_pos (by omega)), if_neg (pu_16 h)]
theorem pt_isC0 (u : ts_S) {x : Int32} (h : x < 0 ∨ nI 4 ≤ x) : dt_isCartridgeNumber u x = some (0, u) := by
  unfold dt_isCartridgeNumber
  by_cases a : x < 0
  · rw [if_pos a]
  · rw [if_neg a]
    rcases h with h | h
    · exact absurd h a
    · rw [if_pos (show (4 : Int32) ≤ x from h)]
theorem pt_isC1 (u : ts_S) {j : Nat} (h : j < 4) : dt_isCartridgeNumber u (nI j) = some (1, u) := by
  unfold dt_isCartridgeNumber
  rw [if_neg (nI_pos (by omega)), if_neg (pu_4 h)]
theorem pm_in0 (u : ts_S) {x y : Int32} (h : x < 0 ∨ y ≤ x) : dm_in u x y = some (0, u) := by
  unfold dm_in
  by_cases a : x < 0
  · rw [if_pos a]
  · rw [if_neg a]
    rcases h with h | h
    · exact absurd h a
    · rw [if_pos h]
theorem pm_in1 (u : ts_S) {x y : Int32} (h1 : ¬ x < 0) (h2 : ¬ y ≤ x) : dm_in u x y = some (1, u) := by
  unfold dm_in
  rw [if_neg h1, if_neg h2]
theorem pm_inF (u : ts_S) {j : Nat} (h : j < 16) : dm_in u (nI j) 16 = some (1, u) := pm_in1 u (nI_pos (by omega)) (pu_16 h)
theorem pm_inC (u : ts_S) {j : Nat} (h : j < 4) : dm_in u (nI j) 4 = some (1, u) := pm_in1 u (nI_pos (by omega)) (pu_4 h)
def us (f : Nat) (u : ts_S) : ts_S := ts_a 8 f (u.1 1 + 1) (ts_p 1 (u.1 1 + 1) u)
theorem pt_use (u : ts_S) {f : Nat} (h : f < 16) : dt_use u (nI f) = some (0, us f u) := by
  unfold dt_use
  rw [pu_ix h (by decide), pu_cl h]
  rfl
theorem pm_use (u : ts_S) {f : Nat} (h : f < 16) : dm_use u (nI f) = some (0, us f u) := by
  unfold dm_use
  rw [pu_ix h (by decide), pu_cl h]
  rfl
theorem rel_us {u v : ts_S} (h : rel u v) (f : Nat) : rel (us f u) (us f v) := by
  unfold us
  rw [h.1 1 (by decide) (by decide)]
  exact rel_a (rel_p h _ (by decide) (by decide)) f _ (by decide) (by decide)
theorem us_k (f : Nat) (u : ts_S) {k : Nat} (h : k ≠ 1) : (us f u).1 k = u.1 k := if_neg h
theorem us_j (f : Nat) (u : ts_S) {j : Nat} (h : j ≠ 8) : (us f u).2 j = u.2 j := if_neg h
theorem iv_us {u : ts_S} {L : Nat} {E N C P : Nat → Nat} (h : iv u L E N C P) (f : Nat) : iv (us f u) L E N C P :=
  iv_sub h (us_k f u (by decide)) (by rw [us_k f u (by decide)]; exact h.2.1) (by rw [us_k f u (by decide)]; exact h.2.2.1) (us_j f u (by decide)) (us_j f u (by decide)) (us_j f u (by decide)) (us_j f u (by decide)) (fun g _ q => by unfold lv at q ⊢; rw [us_j f u (by decide)] at q; exact q) (fun g _ q => by rw [us_j f u (by decide)] at q; exact q) (by rw [us_j f u (by decide)]; exact h.2.2.2.2.2.2.2)
/-- states may change so long as nothing comes alive and nothing comes to be -/
theorem iv_s2 {u : ts_S} {L : Nat} {E N C P : Nat → Nat} (h : iv u L E N C P) {st : Nat → Int32} (hl : ∀ f, f < 16 → (st f = 2 ∨ st f = 3) → lv u f) (hz : ∀ f, f < 16 → ¬ st f = 0 → ¬ u.2 2 f = 0) : iv (s2 st u) L E N C P :=
  iv_sub h rfl h.2.1 h.2.2.1 rfl rfl rfl rfl hl hz h.2.2.2.2.2.2.2
theorem pu_stub {x y : Int32} (h : y = x ∨ (x = 2 ∧ y = 3)) : ((y = 2 ∨ y = 3) → (x = 2 ∨ x = 3)) ∧ (¬ y = 0 → ¬ x = 0) := by
  rcases h with rfl | ⟨rfl, rfl⟩
  · exact ⟨id, id⟩
  · exact ⟨fun _ => Or.inl rfl, fun _ => by decide⟩
/-- making room, on both sides -/
theorem sim_mr {u v : ts_S} (h : rel u v) {L : Nat} {E N C P : Nat → Nat} (hi : iv u L E N C P) (n : Int32) : ∃ (r : Int32) (st : Nat → Int32), (r = 0 ∨ r = 1) ∧ (∀ f, st f = u.2 2 f ∨ (u.2 2 f = 2 ∧ st f = 3)) ∧ dt_makeRoom u n = some (r, s2 st u) ∧ dm_makeRoom v n = some (r, s2 st v) ∧ rel (s2 st u) (s2 st v) ∧ iv (s2 st u) L E N C P := by
  have q := mr_in (u.1 0) n (u.2 3) (u.2 8) 16 (u.2 2)
  refine ⟨_, _, q.1, q.2, pt_mr u n, ?_, rel_s2 h _, iv_s2 hi (fun f _ => (pu_stub (q.2 f)).1) (fun f _ => (pu_stub (q.2 f)).2)⟩
  rw [pm_mr, h.1 0 (by decide) (by decide), h.2.2.2.1 3 (by decide) (by decide) (by decide) (by decide), h.2.2.2.1 8 (by decide) (by decide) (by decide) (by decide), h.2.2.2.1 2 (by decide) (by decide) (by decide) (by decide)]
theorem iv_mv {u : ts_S} {L : Nat} {E N C P : Nat → Nat} (h : iv u L E N C P) {c p n : Nat} (d : Int32) (hc : c < 4) (hp : p + n ≤ 24) : iv (mv u (nI c) (nI p) (nI n) d) L E N C P :=
  iv_sub h (mv_k _ _ _ _ _ (by decide) (by decide) (by decide)) (Or.inr ⟨c, hc, rfl⟩) ⟨p + n, hp, nI_add p n⟩ rfl rfl rfl rfl (fun _ _ q => q) (fun _ _ q => q) h.2.2.2.2.2.2.2
/-- the movement of the head over n units at the place p of c, on both sides -/
theorem sim_mv {u v : ts_S} (h : rel u v) {L : Nat} {E N C P : Nat → Nat} (hi : iv u L E N C P) {c p n : Nat} (hc : c < 4) (hp : p + n ≤ 24) : ∃ d, dp_pass u (nI c) (nI p) (nI n) = some (0, mv u (nI c) (nI p) (nI n) d) ∧ dm_move v (nI c) (nI p) (nI n) = some (0, mv v (nI c) (nI p) (nI n) d) ∧ rel (mv u (nI c) (nI p) (nI n) d) (mv v (nI c) (nI p) (nI n) d) ∧ iv (mv u (nI c) (nI p) (nI n) d) L E N C P := by
  have hc1 : ¬ nI c = -1 := pu_m1 (by omega)
  refine ⟨_, pt_pass u (nI c) (nI p) (nI n), ?_, rel_mv h hc1, iv_mv hi _ hc hp⟩
  rw [pm_move, ← rel_mvh h (nI c) hc1]
  obtain ⟨a, ha, e⟩ : ∃ a, a ≤ 24 ∧ mvh u (nI c) = nI a := by
    unfold mvh
    by_cases q : u.1 4 = nI c
    · rw [if_pos q]; exact hi.2.2.1
    · rw [if_neg q]; exact ⟨0, by omega, rfl⟩
  rw [e, pu_dist (by omega) (by omega)]
/-- bringing back a STUB, on both sides -/
theorem sim_bring {u v : ts_S} (h : rel u v) {L : Nat} {E N C P : Nat → Nat} (hi : iv u L E N C P) {f : Nat} (hf : f < 16) (hs : u.2 2 f = 3) : ∃ r w z, (r = 0 ∨ r = 1) ∧ dt_bringToDisk u (nI f) = some (r, w) ∧ dm_bringBack v (nI f) = some (r, z) ∧ rel w z ∧ iv w L E N C P ∧ (∀ g, g ≠ f → u.2 2 g = 3 → w.2 2 g = 3) ∧ w.1 2 = u.1 2 ∧ w.2 9 = u.2 9 ∧ z.2 9 = v.2 9 ∧ (r = 0 ∨ w.2 2 f = 2) ∧ w.2 7 = u.2 7 := by
  have hl : lv u f := Or.inr hs
  obtain ⟨c1, c2, c3, c4⟩ := hi.2.2.2.2.2.1 f hf hl
  obtain ⟨n1, n2, n3⟩ := hi.2.2.2.2.1 f hf
  have hE := hi.2.2.2.1 (C f) c1
  have hL := hi.1.1
  obtain ⟨r, st, r1, s1, t1, t2, t3, t4⟩ := sim_mr h hi (u.2 3 f)
  have v3 : v.2 3 = u.2 3 := (h.2.2.2.1 3 (by decide) (by decide) (by decide) (by decide)).symm
  have v5 : v.2 5 = u.2 5 := (h.2.2.2.1 5 (by decide) (by decide) (by decide) (by decide)).symm
  have v6 : v.2 6 = u.2 6 := (h.2.2.2.1 6 (by decide) (by decide) (by decide) (by decide)).symm
  have keep : ∀ g, u.2 2 g = 3 → st g = 3 := fun g hg => by
    rcases s1 g with q | ⟨q, -⟩
    · rw [q, hg]
    · rw [hg] at q; exact absurd q (by decide)
  unfold dt_bringToDisk dm_bringBack
  simp only [pu_ix hf (by decide), pu_cl hf]
  rw [if_pos hs, t1, v3, t2]
  simp only [ts_b]
  rcases r1 with rfl | rfl
  · rw [if_pos rfl, if_pos rfl]
    exact ⟨0, s2 st u, s2 st v, Or.inl rfl, rfl, rfl, t3, t4, fun g _ hg => keep g hg, rfl, rfl, rfl, Or.inl rfl, rfl⟩
  · rw [if_neg (by decide), if_neg (by decide)]
    have x5 : (s2 st u).2 5 = u.2 5 := rfl
    have x6 : (s2 st u).2 6 = u.2 6 := rfl
    have x3 : (s2 st u).2 3 = u.2 3 := rfl
    have y5 : (s2 st v).2 5 = v.2 5 := rfl
    have y6 : (s2 st v).2 6 = v.2 6 := rfl
    have y3 : (s2 st v).2 3 = v.2 3 := rfl
    rw [x5, x6, x3, y5, y6, y3, v3, v5, v6, c2, c3, n2]
    obtain ⟨d, d1, d2, d3, d4⟩ := sim_mv t3 t4 (c := C f) (p := P f) (n := N f) c1 (by omega)
    rw [d1, d2]
    simp only []
    rw [pt_use _ hf, pm_use _ hf]
    refine ⟨1, us f (ts_a 2 f 2 (mv (s2 st u) (nI (C f)) (nI (P f)) (nI (N f)) d)), us f (ts_a 2 f 2 (mv (s2 st v) (nI (C f)) (nI (P f)) (nI (N f)) d)), Or.inr rfl, rfl, rfl, rel_us (rel_a d3 f 2 (by decide) (by decide)) f, iv_us ?_ f, fun g hg h3 => ?_, ?_, rfl, rfl, Or.inr ?_, rfl⟩
    · rw [a_s2]
      refine iv_s2 d4 (fun g hg q => ?_) (fun g hg q => ?_)
      · by_cases e : g = f
        · rw [e]; exact Or.inr (keep f hs)
        · have : upd ((mv (s2 st u) (nI (C f)) (nI (P f)) (nI (N f)) d).2 2) f 2 g = (mv (s2 st u) (nI (C f)) (nI (P f)) (nI (N f)) d).2 2 g := if_neg e
          rw [this] at q
          exact q
      · by_cases e : g = f
        · rw [e]
          show ¬ st f = 0
          rw [keep f hs]
          decide
        · have : upd ((mv (s2 st u) (nI (C f)) (nI (P f)) (nI (N f)) d).2 2) f 2 g = (mv (s2 st u) (nI (C f)) (nI (P f)) (nI (N f)) d).2 2 g := if_neg e
          rw [this] at q
          exact q
    · show (if g = f then (2 : Int32) else st g) = 3
      rw [if_neg hg]
      exact keep g h3
    · rfl
    · show (if f = f then (2 : Int32) else st f) = 2
      rw [if_pos rfl]
