/-! pure: serve's order on the class's side -/
def rkN (h : Int32) (C P : Nat → Nat) (x : Nat) : Nat := (if nI (C x) = h then 0 else 100 + 100 * C x) + P x
theorem rk_h {h : Int32} {C P : Nat → Nat} {x : Nat} (q : nI (C x) = h) : rkN h C P x = P x := by
  unfold rkN
  rw [if_pos q]
  omega
theorem rk_n {h : Int32} {C P : Nat → Nat} {x : Nat} (q : ¬ nI (C x) = h) : rkN h C P x = 100 + 100 * C x + P x := by
  unfold rkN
  rw [if_neg q]
theorem pt_lws_l {u : ts_S} {L : Nat} {E N C P : Nat → Nat} (hi : iv u L E N C P) : ∀ (d j k : Nat) (w : ts_S) (l : List Nat), j + d = 4 → d < k → ex u w → w.1 2 = nI l.length → ag (w.2 9) l → l.Nodup → (∀ x, x ∈ l ↔ (x < 16 ∧ lv u x ∧ (nI (C x) = u.1 4 ∨ C x < j))) → l.Pairwise (fun x y => rkN (u.1 4) C P x < rkN (u.1 4) C P y) →
    ∃ w' l', dt_listWaitingStubs_25 k w (u.1 4) (nI j) = (ts_b (dt_keepWaitingStubs w') fun _ z => some (0, z)) ∧ ex u w' ∧ w'.1 2 = nI l'.length ∧ ag (w'.2 9) l' ∧ l'.Nodup ∧ (∀ x, x ∈ l' ↔ (x < 16 ∧ lv u x)) ∧ l'.Pairwise (fun x y => rkN (u.1 4) C P x < rkN (u.1 4) C P y) := by
  intro d
  induction d with
  | zero =>
    intro j k w l hj hk hx h2 h9 hn hl hp
    obtain ⟨k, rfl⟩ := pu_nn hk
    obtain rfl : j = 4 := by omega
    refine ⟨w, l, ?_, hx, h2, h9, hn, fun x => ⟨fun q => ?_, fun q => ?_⟩, hp⟩
    · show dt_listWaitingStubs_25_b (dt_listWaitingStubs_25 k) w (u.1 4) (nI 4) = _
      unfold dt_listWaitingStubs_25_b
      rw [if_pos (by decide)]
    · have := (hl x).mp q
      exact ⟨this.1, this.2.1⟩
    · exact (hl x).mpr ⟨q.1, q.2, Or.inr (hi.2.2.2.2.2.1 x q.1 q.2).1⟩
  | succ d ih =>
    intro j k w l hj hk hx h2 h9 hn hl hp
    obtain ⟨k, rfl⟩ := pu_nn hk
    have h : j < 4 := by omega
    have e : dt_listWaitingStubs_25 (k + 1) w (u.1 4) (nI j) = dt_listWaitingStubs_25_b (dt_listWaitingStubs_25 k) w (u.1 4) (nI j) := rfl
    rw [e]
    unfold dt_listWaitingStubs_25_b
    rw [if_neg (pu_4 h)]
    by_cases q : nI j = u.1 4
    · rw [if_pos q, nI_1]
      refine ih (j + 1) k w l (by omega) (by omega) hx h2 h9 hn (fun x => ⟨fun z => ?_, fun z => ?_⟩) hp
      · obtain ⟨z1, z2, z3⟩ := (hl x).mp z
        refine ⟨z1, z2, ?_⟩
        rcases z3 with z3 | z3
        · exact Or.inl z3
        · exact Or.inr (by omega)
      · obtain ⟨z1, z2, z3⟩ := z
        refine (hl x).mpr ⟨z1, z2, ?_⟩
        rcases z3 with z3 | z3
        · exact Or.inl z3
        · rcases Nat.lt_or_ge (C x) j with y | y
          · exact Or.inr y
          · have : C x = j := by omega
            rw [this]
            exact Or.inl q
    · rw [if_neg q]
      obtain ⟨w', l', i1, i2, i3, i4, i5, i6, i7⟩ := pt_list hi h hx h2 h9 hn (fun x z => by
        obtain ⟨z1, z2, z3⟩ := (hl x).mp z
        refine ⟨z1, fun y => ?_⟩
        rcases z3 with z3 | z3
        · rw [y.2] at z3
          exact q z3
        · have := y.2
          omega)
      rw [i1]
      simp only [ts_b, nI_1]
      refine ih (j + 1) k w' (l ++ l') (by omega) (by omega) i2 i3 i4 i5 (fun x => ⟨fun z => ?_, fun z => ?_⟩) ?_
      · rcases List.mem_append.mp z with y | y
        · obtain ⟨z1, z2, z3⟩ := (hl x).mp y
          refine ⟨z1, z2, ?_⟩
          rcases z3 with z3 | z3
          · exact Or.inl z3
          · exact Or.inr (by omega)
        · obtain ⟨z1, z2, z3⟩ := (i6 x).mp y
          exact ⟨z1, z2, Or.inr (by omega)⟩
      · obtain ⟨z1, z2, z3⟩ := z
        by_cases y : C x = j
        · exact List.mem_append_right _ ((i6 x).mpr ⟨z1, z2, y⟩)
        · refine List.mem_append_left _ ((hl x).mpr ⟨z1, z2, ?_⟩)
          rcases z3 with z3 | z3
          · exact Or.inl z3
          · exact Or.inr (by omega)
      · refine List.pairwise_append.mpr ⟨hp, ?_, fun x hxl y hyl => ?_⟩
        · refine List.Pairwise.imp_of_mem (fun {x y} hxl hyl hxy => ?_) i7
          have a := (i6 x).mp hxl
          have b := (i6 y).mp hyl
          rw [rk_n (by rw [a.2.2]; exact q), rk_n (by rw [b.2.2]; exact q), a.2.2, b.2.2]
          omega
        · obtain ⟨z1, z2, z3⟩ := (hl x).mp hxl
          have b := (i6 y).mp hyl
          rw [rk_n (x := y) (by rw [b.2.2]; exact q), b.2.2]
          have hP := lv_P hi z1 z2
          by_cases z : nI (C x) = u.1 4
          · rw [rk_h z]
            omega
          · rw [rk_n z]
            rcases z3 with z3 | z3
            · exact absurd z3 z
            · omega
/-- those that wait and are STUBs -/
def wq (u : ts_S) (x : Nat) : Bool := decide (¬ u.2 7 x = 0 ∧ u.2 2 x = 3)
theorem pt_keep_l (u : ts_S) (l : List Nat) (h16 : l.length ≤ 16) (hm : ∀ x ∈ l, x < 16) : ∀ (d i k : Nat) (w : ts_S), i + d = l.length → d < k → ex u w → w.1 2 = nI l.length → ag (w.2 9) ((l.take i).filter (wq u)) → (∀ (t : Nat) (h : t < l.length), i ≤ t → w.2 9 t = nI (l[t]'h)) → ∃ w', dt_keepWaitingStubs_4 k w (nI ((l.take i).filter (wq u)).length) (nI i) = some (0, w') ∧ ex u w' ∧ w'.1 2 = nI (l.filter (wq u)).length ∧ ag (w'.2 9) (l.filter (wq u)) := by
  intro d
  induction d with
  | zero =>
    intro i k w hi hk hx h2 h9 h9'
    obtain ⟨k, rfl⟩ := pu_nn hk
    obtain rfl : i = l.length := by omega
    rw [List.take_length] at h9 ⊢
    refine ⟨ts_p 2 (nI (l.filter (wq u)).length) w, ?_, ex_p hx _, rfl, h9⟩
    show dt_keepWaitingStubs_4_b (dt_keepWaitingStubs_4 k) w _ (nI l.length) = _
    unfold dt_keepWaitingStubs_4_b
    rw [h2, if_pos (Int32.le_refl _)]
  | succ d ih =>
    intro i k w hi hk hx h2 h9 h9'
    obtain ⟨k, rfl⟩ := pu_nn hk
    have hil : i < l.length := by omega
    have hi16 : i < 16 := by omega
    have hx16 : l[i] < 16 := hm _ (List.getElem_mem hil)
    have ht : l.take (i + 1) = l.take i ++ [l[i]] := by rw [List.take_append_getElem]
    have ha : ((l.take i).filter (wq u)).length ≤ i := by
      refine Nat.le_trans (List.length_filter_le _ _) ?_
      rw [List.length_take]
      omega
    have e : dt_keepWaitingStubs_4 (k + 1) w (nI ((l.take i).filter (wq u)).length) (nI i) = dt_keepWaitingStubs_4_b (dt_keepWaitingStubs_4 k) w (nI ((l.take i).filter (wq u)).length) (nI i) := rfl
    rw [e]
    unfold dt_keepWaitingStubs_4_b
    rw [h2, if_neg (nI_ge hil (by omega))]
    simp only [pu_ix hi16 (by decide), pu_cl hi16, h9' i hil (Nat.le_refl i), pu_ix hx16 (by decide), pu_cl hx16, hx.2 7 (by decide), hx.2 2 (by decide), nI_1]
    have skip : wq u l[i] = false → ∃ w', dt_keepWaitingStubs_4 k w (nI ((l.take i).filter (wq u)).length) (nI (i + 1)) = some (0, w') ∧ ex u w' ∧ w'.1 2 = nI (l.filter (wq u)).length ∧ ag (w'.2 9) (l.filter (wq u)) := by
      intro hq
      have e1 : (l.take (i + 1)).filter (wq u) = (l.take i).filter (wq u) := by
        rw [ht, List.filter_append, List.filter_cons, hq]
        simp
      have := ih (i + 1) k w (by omega) (by omega) hx h2 (by rw [e1]; exact h9) (fun t h1 h2 => h9' t h1 (by omega))
      rw [e1] at this
      exact this
    by_cases c1 : u.2 7 l[i] = 0
    · rw [if_pos c1]
      exact skip (by unfold wq; simp [c1])
    · rw [if_neg c1]
      by_cases c2 : u.2 2 l[i] = 3
      · rw [if_pos c2, pu_ix (show ((l.take i).filter (wq u)).length < 16 by omega) (by decide), pu_cl (show ((l.take i).filter (wq u)).length < 16 by omega)]
        have hq : wq u l[i] = true := by unfold wq; simp [c1, c2]
        have e1 : (l.take (i + 1)).filter (wq u) = (l.take i).filter (wq u) ++ [l[i]] := by
          rw [ht, List.filter_append, List.filter_cons, hq]
          simp
        have := ih (i + 1) k (ts_a 9 ((l.take i).filter (wq u)).length (nI l[i]) w) (by omega) (by omega) (ex_a hx _ _) h2 (by rw [e1]; exact ag_push h9 _) (fun t h1 h2 => by
          have e3 : (ts_a 9 ((l.take i).filter (wq u)).length (nI l[i]) w).2 9 t = w.2 9 t := if_neg (by omega)
          rw [e3]
          exact h9' t h1 (by omega))
        rw [e1, List.length_append, List.length_singleton] at this
        exact this
      · rw [if_neg c2]
        exact skip (by unfold wq; simp [c2])
/-- what is listed before serve begins -/
theorem pt_lws {u : ts_S} {L : Nat} {E N C P : Nat → Nat} (hi : iv u L E N C P) : ∃ w l, dt_listWaitingStubs u = some (0, w) ∧ ex u w ∧ w.1 2 = nI l.length ∧ ag (w.2 9) l ∧ l.length ≤ 16 ∧ (∀ x, x ∈ l ↔ (x < 16 ∧ wq u x = true)) ∧ l.Pairwise (fun x y => rkN (u.1 4) C P x < rkN (u.1 4) C P y) := by
  have key : ∀ (w : ts_S) (l : List Nat), ex u w → w.1 2 = nI l.length → ag (w.2 9) l → l.Nodup → (∀ x, x ∈ l ↔ (x < 16 ∧ lv u x ∧ (nI (C x) = u.1 4 ∨ C x < 0))) → l.Pairwise (fun x y => rkN (u.1 4) C P x < rkN (u.1 4) C P y) → ∃ w' l', dt_listWaitingStubs_25 40 w (u.1 4) 0 = some (0, w') ∧ ex u w' ∧ w'.1 2 = nI l'.length ∧ ag (w'.2 9) l' ∧ l'.length ≤ 16 ∧ (∀ x, x ∈ l' ↔ (x < 16 ∧ wq u x = true)) ∧ l'.Pairwise (fun x y => rkN (u.1 4) C P x < rkN (u.1 4) C P y) := by
    intro w l hx h2 h9 hn hl hp
    obtain ⟨w1, l1, i1, i2, i3, i4, i5, i6, i7⟩ := pt_lws_l hi 4 0 40 w l rfl (by decide) hx h2 h9 hn hl hp
    have h16 : l1.length ≤ 16 := ph 16 l1 i5 (fun x q => ((i6 x).mp q).1)
    obtain ⟨w2, j1, j2, j3, j4⟩ := pt_keep_l u l1 h16 (fun x q => ((i6 x).mp q).1) l1.length 0 40 w1 (by omega) (by omega) i2 i3 (fun t ht => absurd ht (by simp)) (fun t h1 _ => i4 t h1)
    have j1 : dt_keepWaitingStubs w1 = some (0, w2) := j1
    refine ⟨w2, l1.filter (wq u), ?_, j2, j3, j4, Nat.le_trans (List.length_filter_le _ _) h16, fun x => ⟨fun q => ?_, fun q => ?_⟩, List.Pairwise.filter _ i7⟩
    · have i1 : dt_listWaitingStubs_25 40 w (u.1 4) 0 = _ := i1
      rw [i1, j1]
      rfl
    · obtain ⟨q1, q2⟩ := List.mem_filter.mp q
      exact ⟨((i6 x).mp q1).1, q2⟩
    · refine List.mem_filter.mpr ⟨(i6 x).mpr ⟨q.1, ?_⟩, q.2⟩
      have := q.2
      unfold wq at this
      exact Or.inr (of_decide_eq_true this).2
  unfold dt_listWaitingStubs
  have e4 : (ts_p 2 0 u).1 4 = u.1 4 := rfl
  rw [e4]
  by_cases q : u.1 4 = -1
  · rw [if_pos q]
    refine key (ts_p 2 0 u) [] (ex_p (ex_rf u) 0) rfl (fun t ht => absurd ht (by simp)) List.Pairwise.nil (fun x => ⟨fun z => (by cases z), fun z => ?_⟩) List.Pairwise.nil
    rcases z.2.2 with y | y
    · rw [q] at y
      exact absurd y (pu_m1 (by have := (hi.2.2.2.2.2.1 x z.1 z.2.1).1; omega))
    · exact absurd y (Nat.not_lt_zero _)
  · rw [if_neg q]
    obtain ⟨c, hc, ec⟩ : ∃ c, c < 4 ∧ u.1 4 = nI c := by
      rcases hi.2.1 with z | z
      · exact absurd z q
      · exact z
    obtain ⟨w', l', i1, i2, i3, i4, i5, i6, i7⟩ := pt_list (l := []) hi hc (ex_p (ex_rf u) 0) rfl (fun t ht => absurd ht (by simp)) List.Pairwise.nil (fun x z => by cases z)
    have hC : ∀ x, x < 16 → lv u x → (nI (C x) = u.1 4 ↔ C x = c) := fun x hx hv => by
      rw [ec]
      exact nI_eq (by have := (hi.2.2.2.2.2.1 x hx hv).1; omega) (by omega)
    rw [← ec] at i1
    rw [i1, ts_bs]
    refine key w' l' i2 i3 i4 i5 (fun x => ⟨fun z => ?_, fun z => ?_⟩) ?_
    · obtain ⟨z1, z2, z3⟩ := (i6 x).mp z
      exact ⟨z1, z2, Or.inl ((hC x z1 z2).mpr z3)⟩
    · obtain ⟨z1, z2, z3⟩ := z
      rcases z3 with z3 | z3
      · exact (i6 x).mpr ⟨z1, z2, (hC x z1 z2).mp z3⟩
      · exact absurd z3 (Nat.not_lt_zero _)
    · refine List.Pairwise.imp_of_mem (fun {x y} hxl hyl hxy => ?_) i7
      have a := (i6 x).mp hxl
      have b := (i6 y).mp hyl
      rw [rk_h ((hC x a.1 a.2.1).mpr a.2.2), rk_h ((hC y b.1 b.2.1).mpr b.2.2)]
      exact hxy
