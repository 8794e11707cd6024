/-! pure: empty side by side, the reference's trial and the moves -/
theorem dr_mem {P : Nat → Nat} {l t : List Nat} {i x : Nat} (hd : l.drop i = x :: t) (hs : l.Pairwise (fun a b => P a < P b)) : (∀ y, (y ∈ l ∧ P x < P y) ↔ y ∈ t) ∧ x ∈ l := by
  have e : l = l.take i ++ (x :: t) := by rw [← hd, List.take_append_drop]
  have hs2 := hs
  rw [e] at hs2
  obtain ⟨p1, p2, p3⟩ := List.pairwise_append.mp hs2
  have p4 := (List.pairwise_cons.mp p2).1
  refine ⟨fun y => ⟨fun q => ?_, fun q => ⟨?_, p4 y q⟩⟩, by rw [e]; exact List.mem_append_right _ List.mem_cons_self⟩
  · have q1 := q.1
    rw [e] at q1
    rcases List.mem_append.mp q1 with z | z
    · have := p3 y z x List.mem_cons_self
      omega
    · rcases List.mem_cons.mp z with y1 | y1
      · rw [y1] at q
        omega
      · exact y1
  · rw [e]
    exact List.mem_append_right _ (List.mem_cons_of_mem _ q)
theorem dr_at {l t : List Nat} {i x : Nat} (hd : l.drop i = x :: t) : ∃ h : i < l.length, l[i] = x ∧ l.drop (i + 1) = t := by
  have hil : i < l.length := by
    rcases Nat.lt_or_ge i l.length with q | q
    · exact q
    · rw [List.drop_eq_nil_of_le q] at hd
      cases hd
  rw [List.drop_eq_getElem_cons hil] at hd
  exact ⟨hil, (List.cons.inj hd).1, (List.cons.inj hd).2⟩
theorem pm_try_l {u v : ts_S} (hr : rel u v) {L : Nat} {E N C P : Nat → Nat} (hi : iv u L E N C P) {c : Nat} (hc : c < 4) (l : List Nat) (h16 : l.length ≤ 16) (hm : ∀ x, x ∈ l ↔ (x < 16 ∧ lv u x ∧ C x = c)) (hs : l.Pairwise (fun x y => P x < P y)) : ∀ (m : List Nat) (i k : Nat) (w : ts_S) (T : Nat → Nat), l.drop i = m → i ≤ l.length → m.length < k → ey v w → (∀ j, j < 4 → T j ≤ L ∧ w.2 11 j = nI (T j)) → ∃ r w', dm_canEmpty_34 k w (nI c) (hd0 m) (nI i) = some (r, w') ∧ ((r = 1 ∧ trp L c N m T) ∨ (r = 0 ∧ ¬ trp L c N m T)) ∧ ey v w' := by
  intro m
  induction m with
  | nil =>
    intro i k w T hd hle hk hy hT
    obtain ⟨k, rfl⟩ := pu_nn hk
    refine ⟨1, w, ?_, Or.inl ⟨rfl, trivial⟩, hy⟩
    show dm_canEmpty_34_b (dm_canEmpty_34 k) w (nI c) (-1) (nI i) = _
    unfold dm_canEmpty_34_b
    by_cases q : (16 : Int32) ≤ nI i
    · rw [if_pos q]
    · rw [if_neg q, if_pos (by decide)]
  | cons x t ih =>
    intro i k w T hd hle hk hy hT
    obtain ⟨k, rfl⟩ := pu_nn hk
    obtain ⟨hil, hx, hdt⟩ := dr_at hd
    obtain ⟨dm, xl⟩ := dr_mem hd hs
    have hi16 : i < 16 := by omega
    obtain ⟨hx16, hxv, hxc⟩ := (hm x).mp xl
    have hN := hi.2.2.2.2.1 x hx16
    have v3 : w.2 3 x = nI (N x) := by rw [hy.2 3 (by decide) (by decide), rel_j hr (by decide) (by decide) (by decide) (by decide)]; exact hN.2.1
    have v13 : w.1 3 = nI L := by rw [hy.1 3 (by decide), rel_k hr (by decide) (by decide)]; exact hi.1.2
    obtain ⟨b, K', b1, b2⟩ := pm_tbest_l w (c := c) hx16 (dm_canEmpty_34 k) (nI i) 4 40 (-1) (Nat.le_refl 4) (by decide) (Or.inl ⟨rfl, fun t h1 h2 => absurd h1 (by omega)⟩)
    have b1 : dm_canEmpty_50 (dm_canEmpty_34 k) 40 w (nI c) (nI x) (nI i) (-1) 3 = dm_canEmpty_50_b (dm_canEmpty_34 k) K' w (nI c) (nI x) (nI i) b (-1) := b1
    have b3 : fs (fun j => j ≠ c ∧ T j + N x ≤ L) b := fs_c (fun j hj => by
      rw [v13, (hT j hj).2, v3, fit_iff hi.1.1 (by have := (hT j hj).1; have := hi.1.1; omega) hN.1]
      constructor
      · rintro ⟨a, b⟩
        exact ⟨fun q => a (by rw [q]), b⟩
      · rintro ⟨a, b⟩
        exact ⟨fun q => a ((nI_eq (by omega) (by omega)).mp q), b⟩) b2
    have e : dm_canEmpty_34 (k + 1) w (nI c) (hd0 (x :: t)) (nI i) = dm_canEmpty_34_b (dm_canEmpty_34 k) w (nI c) (nI x) (nI i) := rfl
    rw [e]
    unfold dm_canEmpty_34_b
    rw [if_neg (pu_16 hi16), if_neg (nI_pos (by omega)), b1]
    unfold dm_canEmpty_50_b
    rw [if_pos (by decide)]
    rcases b3 with ⟨rfl, n1⟩ | ⟨j, j1, rfl, j2, j3⟩
    · rw [if_neg (by decide)]
      refine ⟨0, w, rfl, Or.inr ⟨rfl, ?_⟩, hy⟩
      rintro ⟨q, q1, q2, q3, -⟩
      exact n1 q q1 ⟨q2, q3⟩
    · rw [if_pos (nI_pos' (by omega))]
      simp only [pu_ix j1 (by decide), pu_cl (show j < 16 by omega), pu_ix hx16 (by decide), pu_cl hx16]
      rw [(hT j j1).2, v3, nI_add]
      have hy2 := ey_tr hy (ey_a w j (nI (T j + N x)))
      have w6 : (ts_a 11 j (nI (T j + N x)) w).2 6 = u.2 6 := by rw [hy2.2 6 (by decide) (by decide)]; exact rel_j hr (by decide) (by decide) (by decide) (by decide)
      have w5 : (ts_a 11 j (nI (T j + N x)) w).2 5 = u.2 5 := by rw [hy2.2 5 (by decide) (by decide)]; exact rel_j hr (by decide) (by decide) (by decide) (by decide)
      have w2 : (ts_a 11 j (nI (T j + N x)) w).2 2 = u.2 2 := by rw [hy2.2 2 (by decide) (by decide)]; exact rel_j hr (by decide) (by decide) (by decide) (by decide)
      have px := (hi.2.2.2.2.2.1 x hx16 hxv).2.2.1
      have pl := lv_P hi hx16 hxv
      have nx1 : dm_next (ts_a 11 j (nI (T j + N x)) w) (nI c) (nI (P x + 1)) = some (hd0 t, ts_a 11 j (nI (T j + N x)) w) := by
        refine pm_nxt (P := P) t (by omega) (fun y hy16 => ?_) (fun y hyt => ?_) ?_
        · rw [← dm y, hm y]
          have hlc : lc (ts_a 11 j (nI (T j + N x)) w) (nI c) y ↔ (lv u y ∧ C y = c) := by
            rw [← lc_C hi hy16 hc]
            unfold lc
            rw [w2, w5]
          rw [hlc, w6]
          constructor
          · rintro ⟨⟨a1, a2⟩, a3⟩
            rw [(hi.2.2.2.2.2.1 y hy16 a1).2.2.1] at a3
            refine ⟨⟨hy16, a1, a2⟩, Nat.not_le.mp (fun q => a3 (nI_lt (by omega) (by omega)))⟩
          · rintro ⟨⟨-, a1, a2⟩, a3⟩
            rw [(hi.2.2.2.2.2.1 y hy16 a1).2.2.1]
            have := lv_P hi hy16 a1
            exact ⟨⟨a1, a2⟩, nI_nlt (by omega) (by omega)⟩
        · obtain ⟨yl, -⟩ := (dm y).mpr hyt
          obtain ⟨y1, y2, y3⟩ := (hm y).mp yl
          have := lv_P hi y1 y2
          exact ⟨y1, by rw [w6]; exact (hi.2.2.2.2.2.1 y y1 y2).2.2.1, by omega⟩
        · have q := hs.sublist (List.drop_sublist (i + 1) l)
          rw [hdt] at q
          exact q
      rw [w6, px, nI_1, nx1]
      simp only [ts_b, nI_1]
      obtain ⟨r', w', i1, i2, i3⟩ := ih (i + 1) k (ts_a 11 j (nI (T j + N x)) w) (va_up T j (T j + N x)) hdt (by omega) (by simp at hk; omega) hy2 (fun q hq => by
        show va_up T j (T j + N x) q ≤ L ∧ upd (w.2 11) j (nI (T j + N x)) q = nI (va_up T j (T j + N x) q)
        by_cases z : q = j
        · have e1 : va_up T j (T j + N x) q = T j + N x := if_pos z
          have e2 : upd (w.2 11) j (nI (T j + N x)) q = nI (T j + N x) := if_pos z
          rw [e1, e2]
          exact ⟨j2.2, rfl⟩
        · have e1 : va_up T j (T j + N x) q = T q := if_neg z
          have e2 : upd (w.2 11) j (nI (T j + N x)) q = w.2 11 q := if_neg z
          rw [e1, e2]
          exact hT q hq)
      refine ⟨r', w', i1, ?_, i3⟩
      rcases i2 with ⟨a, b⟩ | ⟨a, b⟩
      · exact Or.inl ⟨a, j, j1, j2.1, j2.2, j3, b⟩
      · refine Or.inr ⟨a, ?_⟩
        rintro ⟨q, q1, q2, q3, q4, q5⟩
        have : q = j := by
          rcases Nat.lt_trichotomy q j with y | y | y
          · exact absurd ⟨q2, q3⟩ (j3 q y)
          · exact y
          · exact absurd j2 (q4 j y)
        rw [this] at q5
        exact b q5
/-- the reference's tried row is made -/
theorem pm_tried_l (v : ts_S) (x : Int32) : ∀ (d j k : Nat) (w : ts_S), j + d = 4 → d < k → ey v w → (∀ t, t < j → w.2 11 t = v.2 10 t) → ∃ w', dm_canEmpty_2 k w x (nI j) = (ts_b (dm_next w' x 0) fun r z => dm_canEmpty_34 40 z x r 0) ∧ ey v w' ∧ ∀ t, t < 4 → w'.2 11 t = v.2 10 t := by
  intro d
  induction d with
  | zero =>
    intro j k w hj hk hy ht
    obtain ⟨k, rfl⟩ := pu_nn hk
    obtain rfl : j = 4 := by omega
    refine ⟨w, ?_, hy, ht⟩
    show dm_canEmpty_2_b (dm_canEmpty_2 k) w x (nI 4) = _
    unfold dm_canEmpty_2_b
    rw [if_pos (by decide)]
  | succ d ih =>
    intro j k w hj hk hy ht
    obtain ⟨k, rfl⟩ := pu_nn hk
    have h : j < 4 := by omega
    have e : dm_canEmpty_2 (k + 1) w x (nI j) = dm_canEmpty_2_b (dm_canEmpty_2 k) w x (nI j) := rfl
    rw [e]
    unfold dm_canEmpty_2_b
    rw [if_neg (pu_4 h)]
    simp only [pu_ix h (by decide), pu_cl (show j < 16 by omega), nI_1]
    refine ih (j + 1) k _ (by omega) (by omega) (ey_tr hy (ey_a w j _)) (fun t htj => ?_)
    show (if t = j then w.2 10 j else w.2 11 t) = v.2 10 t
    by_cases q : t = j
    · rw [if_pos q, q, hy.2 10 (by decide) (by decide)]
    · rw [if_neg q]
      exact ht t (by omega)
/-- the moves, side by side -/
theorem sim_moves {c : Nat} (hc : c < 4) {L : Nat} (l : List Nat) (h16 : l.length ≤ 16) : ∀ (m : List Nat) (i k : Nat) (u v : ts_S) (E N C P : Nat → Nat), l.drop i = m → i ≤ l.length → m.length < k → rel u v → iv u L E N C P → u.1 2 = nI l.length → ag (u.2 9) l → (∀ x, x ∈ m ↔ (x < 16 ∧ lv u x ∧ C x = c)) → m.Pairwise (fun x y => P x < P y) → trp L c N m E → ∃ r w z, dt_empty_32 k u (nI c) (nI i) = some (r, w) ∧ dm_empty_30 k v (nI c) (nI i) (hd0 m) = some (r, z) ∧ ri w z := by
  intro m
  induction m with
  | nil =>
    intro i k u v E N C P hd hle hk hr hi h2 h9 hm hs ht
    obtain ⟨k, rfl⟩ := pu_nn hk
    have hil : i = l.length := by
      have := List.drop_eq_nil_iff.mp hd
      omega
    have eT : dt_empty_32 (k + 1) u (nI c) (nI i) = some (nI i, ts_a 10 c 0 u) := by
      show dt_empty_32_b (dt_empty_32 k) u (nI c) (nI i) = _
      unfold dt_empty_32_b
      rw [h2, if_pos (nI_le (by omega) (by omega)), pu_ix hc (by decide), pu_cl (show c < 16 by omega)]
      have : (ts_a 10 c 0 u).1 2 = nI i := by rw [hil]; exact h2
      rw [this]
    have eM : dm_empty_30 (k + 1) v (nI c) (nI i) (hd0 []) = some (nI i, ts_a 10 c 0 v) := by
      show dm_empty_30_b (dm_empty_30 k) v (nI c) (nI i) (-1) = _
      unfold dm_empty_30_b
      simp only [pu_ix hc (by decide), pu_cl (show c < 16 by omega)]
      by_cases q : (16 : Int32) ≤ nI i
      · rw [if_pos q]
      · rw [if_neg q, if_pos (by decide)]
    refine ⟨_, _, _, eT, eM, rel_a hr c 0 (by decide) (by decide), L, va_up E c 0, N, C, P, ?_⟩
    obtain ⟨i1, i2, i3, i4, i5, i6, i7, i8⟩ := hi
    have Ec : ∀ q, q ≠ c → va_up E c 0 q = E q := fun q z => if_neg z
    refine ⟨i1, i2, i3, fun q hq => ?_, i5, fun f hf hv => ?_, i7, i8⟩
    · show va_up E c 0 q ≤ L ∧ upd (u.2 10) c 0 q = nI (va_up E c 0 q)
      by_cases z : q = c
      · have e1 : va_up E c 0 q = 0 := if_pos z
        have e2 : upd (u.2 10) c 0 q = 0 := if_pos z
        rw [e1, e2]
        exact ⟨Nat.zero_le L, rfl⟩
      · have e2 : upd (u.2 10) c 0 q = u.2 10 q := if_neg z
        rw [Ec q z, e2]
        exact i4 q hq
    · have hv' : lv u f := hv
      have hne : C f ≠ c := fun e => by
        have := (hm f).mpr ⟨hf, hv', e⟩
        cases this
      obtain ⟨z1, z2, z3, z4⟩ := i6 f hf hv'
      exact ⟨z1, z2, z3, by rw [Ec _ hne]; exact z4⟩
  | cons x t ih =>
    intro i k u v E N C P hd hle hk hr hi h2 h9 hm hs ht
    obtain ⟨k, rfl⟩ := pu_nn hk
    obtain ⟨hil, hx, hdt⟩ := dr_at hd
    have hi16 : i < 16 := by omega
    obtain ⟨hx16, hxv, hxc⟩ := (hm x).mp List.mem_cons_self
    obtain ⟨c1, c2, c3, c4⟩ := hi.2.2.2.2.2.1 x hx16 hxv
    have hN := hi.2.2.2.2.1 x hx16
    have hE := hi.2.2.2.1 (C x) c1
    have hL := hi.1.1
    obtain ⟨j, j1, j2, j3, j4, j5⟩ := ht
    obtain ⟨d, d1, d2, d3, d4⟩ := sim_mv hr hi (c := c) (p := P x) (n := N x) hc (by omega)
    generalize hU : mv u (nI c) (nI (P x)) (nI (N x)) d = U at d1 d3 d4
    generalize hV : mv v (nI c) (nI (P x)) (nI (N x)) d = V at d2 d3
    have U2 : U.2 = u.2 := by rw [← hU]; rfl
    have V2 : V.2 = v.2 := by rw [← hV]; rfl
    have U4 : U.1 4 = nI c := by rw [← hU]; rfl
    have U12 : U.1 2 = u.1 2 := by rw [← hU]; rfl
    have U3 : U.2 3 x = nI (N x) := by rw [U2]; exact hN.2.1
    rcases sim_copy d3 d4 hx16 (nI c) with ⟨-, -, no⟩ | ⟨b, e, b1, b2, b3, b4, b5, b6, b7, b8⟩
    · exact absurd j3 (no j j1 (fun q => j2 ((nI_eq (by omega) (by omega)).mp q)))
    · have bj : b = j := by
        rcases b4 with ⟨-, q, -⟩ | ⟨-, q⟩
        · exact absurd U4 q
        · have q2 : fs (fun k => k ≠ c ∧ E k + N x ≤ L) (nI b) := fs_c (fun k hk => by
            rw [d4.1.2, (d4.2.2.2.1 k hk).2, U3, fit_iff hL (by have := (d4.2.2.2.1 k hk).1; omega) hN.1]
            constructor
            · rintro ⟨a, b⟩
              exact ⟨fun q => a (by rw [q]), b⟩
            · rintro ⟨a, b⟩
              exact ⟨fun q => a ((nI_eq (by omega) (by omega)).mp q), b⟩) q
          have q3 : fs (fun k => k ≠ c ∧ E k + N x ≤ L) (nI j) := Or.inr ⟨j, j1, rfl, ⟨j2, j3⟩, j4⟩
          exact (nI_eq (by omega) (by omega)).mp (fs_u (fun _ _ => Iff.rfl) q2 q3)
      subst bj
      -- the class
      have mT : dt_moveCopy u (nI x) (nI c) = some (0, pc U x b (E b) (N x) e) := by
        unfold dt_moveCopy
        simp only [pu_ix hx16 (by decide), pu_cl hx16]
        rw [c3, hN.2.1, d1]
        simp only [ts_b]
        rw [b5]
        simp only []
        rw [if_neg (pu_m1 (by omega)), b6]
      have eT : dt_empty_32 (k + 1) u (nI c) (nI i) = dt_empty_32 k (pc U x b (E b) (N x) e) (nI c) (nI (i + 1)) := by
        show dt_empty_32_b (dt_empty_32 k) u (nI c) (nI i) = _
        unfold dt_empty_32_b
        rw [h2, if_neg (nI_ge hil (by omega)), pu_ix hi16 (by decide), pu_cl hi16, h9 i hil, hx, mT]
        simp only [ts_b, nI_1]
      -- the new state
      have hiv : iv (pc U x b (E b) (N x) e) L (va_up E b (E b + N x)) N (va_up C x b) (va_up P x (E b)) := by
        have q := iv_pc d4 e (st := U.2 2) hx16 b1 (by rw [U2]; rcases hxv with z | z <;> rw [z] <;> decide) b3 (fun g _ _ z => z) (fun g _ z => z)
        have s : s2 (U.2 2) (pc U x b (E b) (N x) e) = pc U x b (E b) (N x) e := s2_self (pc U x b (E b) (N x) e)
        rw [s] at q
        exact q
      have lvp : ∀ g, lv (pc U x b (E b) (N x) e) g ↔ lv u g := fun g => by
        unfold lv
        have : (pc U x b (E b) (N x) e).2 2 = U.2 2 := rfl
        rw [this, U2]
      have Cg : ∀ g, g ≠ x → va_up C x b g = C g := fun g q => if_neg q
      have Pg : ∀ g, g ≠ x → va_up P x (E b) g = P g := fun g q => if_neg q
      obtain ⟨hs1, hs2⟩ := List.pairwise_cons.mp hs
      have xt : x ∉ t := fun q => by
        have := hs1 x q
        omega
      have hmt : ∀ y, y ∈ t ↔ (y < 16 ∧ lv (pc U x b (E b) (N x) e) y ∧ va_up C x b y = c) := fun y => by
        rw [lvp]
        by_cases q : y = x
        · have e1 : va_up C x b y = b := if_pos q
          rw [e1]
          exact ⟨fun z => absurd (q ▸ z) xt, fun z => absurd z.2.2 j2⟩
        · rw [Cg y q, ← hm y]
          exact ⟨fun z => List.mem_cons_of_mem _ z, fun z => by
            rcases List.mem_cons.mp z with w | w
            · exact absurd w q
            · exact w⟩
      have hst : t.Pairwise (fun y z => va_up P x (E b) y < va_up P x (E b) z) := by
        refine List.Pairwise.imp_of_mem (fun {y z} hy hz hyz => ?_) hs2
        rw [Pg y (fun q => xt (q ▸ hy)), Pg z (fun q => xt (q ▸ hz))]
        exact hyz
      -- the reference
      have v3 : v.2 3 x = nI (N x) := by rw [rel_j hr (by decide) (by decide) (by decide) (by decide)]; exact hN.2.1
      have v6 : v.2 6 x = nI (P x) := by rw [rel_j hr (by decide) (by decide) (by decide) (by decide)]; exact c3
      have nx1 : dm_next (pc V x b (E b) (N x) e) (nI c) (nI (P x + 1)) = some (hd0 t, pc V x b (E b) (N x) e) := by
        refine pm_nxt (P := va_up P x (E b)) t (by omega) (fun y hy16 => ?_) (fun y hyt => ?_) hst
        · have r2 : (pc V x b (E b) (N x) e).2 2 = (pc U x b (E b) (N x) e).2 2 := rel_j b8 (by decide) (by decide) (by decide) (by decide)
          have r5 : (pc V x b (E b) (N x) e).2 5 = (pc U x b (E b) (N x) e).2 5 := rel_j b8 (by decide) (by decide) (by decide) (by decide)
          have r6 : (pc V x b (E b) (N x) e).2 6 = (pc U x b (E b) (N x) e).2 6 := rel_j b8 (by decide) (by decide) (by decide) (by decide)
          have hlc : lc (pc V x b (E b) (N x) e) (nI c) y ↔ (lv (pc U x b (E b) (N x) e) y ∧ va_up C x b y = c) := by
            rw [← lc_C hiv hy16 hc]
            unfold lc
            rw [r2, r5]
          rw [hlc, r6, hmt y]
          constructor
          · rintro ⟨a1, a2⟩
            exact ⟨hy16, a1⟩
          · rintro ⟨-, a1⟩
            refine ⟨a1, ?_⟩
            have yt := (hmt y).mpr ⟨hy16, a1⟩
            have yP := hs1 y yt
            have yx : y ≠ x := fun q => xt (q ▸ yt)
            rw [(hiv.2.2.2.2.2.1 y hy16 a1.1).2.2.1, Pg y yx]
            have := lv_P hiv hy16 a1.1
            rw [Pg y yx] at this
            exact nI_nlt (by omega) (by omega)
        · obtain ⟨y1, y2, y3⟩ := (hmt y).mp hyt
          have r6 : (pc V x b (E b) (N x) e).2 6 = (pc U x b (E b) (N x) e).2 6 := rel_j b8 (by decide) (by decide) (by decide) (by decide)
          have := lv_P hiv y1 y2
          exact ⟨y1, by rw [r6]; exact (hiv.2.2.2.2.2.1 y y1 y2).2.2.1, by omega⟩
      have eM : dm_empty_30 (k + 1) v (nI c) (nI i) (hd0 (x :: t)) = dm_empty_30 k (pc V x b (E b) (N x) e) (nI c) (nI (i + 1)) (hd0 t) := by
        show dm_empty_30_b (dm_empty_30 k) v (nI c) (nI i) (nI x) = _
        unfold dm_empty_30_b
        rw [if_neg (pu_16 hi16), if_neg (nI_pos (by omega))]
        simp only [pu_ix hx16 (by decide), pu_cl hx16]
        rw [v6, v3, d2]
        simp only [ts_b]
        rw [b7]
        simp only []
        rw [if_neg (by decide), nI_1, nx1]
        simp only [nI_1]
      rw [eT, eM]
      refine ih (i + 1) k _ _ _ N _ _ hdt (by omega) (by simp at hk; omega) b8 hiv ?_ ?_ hmt hst j5
      · show U.1 2 = nI l.length
        rw [U12]
        exact h2
      · show ag (U.2 9) l
        rw [U2]
        exact h9
theorem sim_empty {u v : ts_S} (h : ri u v) (x : Int32) : ∃ r w z, dt_empty u x = some (r, w) ∧ dm_empty v x = some (r, z) ∧ ri w z := by
  obtain ⟨hr, L, E, N, C, P, hi⟩ := h
  have hri : ri u v := ⟨hr, L, E, N, C, P, hi⟩
  unfold dt_empty dm_empty
  rcases pk_ix x (n := 4) (by decide) with q | q | ⟨c, hc, rfl⟩
  · rw [pt_isC0 u (Or.inl q), pm_in0 v (Or.inl q)]
    exact ⟨_, _, _, rfl, rfl, hri⟩
  · rw [pt_isC0 u (Or.inr q), pm_in0 v (y := 4) (Or.inr q)]
    exact ⟨_, _, _, rfl, rfl, hri⟩
  · rw [pt_isC1 u hc, pm_inC v hc]
    simp only [ts_b]
    rw [if_neg pu_10, if_neg pu_10]
    -- the list
    obtain ⟨w1, l, a1, a2, a3, a4, a5, a6, a7⟩ := pt_list (l := []) hi hc (ex_p (ex_rf u) 0) rfl (fun t ht => absurd ht (by simp)) List.Pairwise.nil (fun x z => by cases z)
    rw [List.nil_append] at a3 a4 a5
    have h16 : l.length ≤ 16 := ph 16 l a5 (fun x q => ((a6 x).mp q).1)
    rw [a1]
    simp only []
    -- the class's trial
    have hy1 := ey_ex a2
    have hy2 := ey_tr hy1 (ey_c w1)
    obtain ⟨r, w2, b1, b2, b3, b4, b5⟩ := pt_try_l hi hc l h16 (fun x q => ((a6 x).mp q).1) l 0 40 (ts_c w1) E rfl (Nat.zero_le _) (by omega) hy2 a3 a4 (fun j hj => by
      refine ⟨(hi.2.2.2.1 j hj).1, ?_⟩
      show va_cpy (w1.2 10) (w1.2 11) 0 0 4 j = nI (E j)
      rw [pk_cpy_in (Nat.zero_le j) (by omega), a2.2 10 (by decide)]
      have : 0 + (j - 0) = j := by omega
      rw [this]
      exact (hi.2.2.2.1 j hj).2)
    have b1 : dt_listedFitBeside w1 (nI c) = some (r, w2) := b1
    rw [b1]
    simp only []
    -- the reference's trial
    obtain ⟨v1, c1, c2, c3⟩ := pm_tried_l v (nI c) 4 0 40 v rfl (by decide) (ey_rf v) (fun t ht => absurd ht (Nat.not_lt_zero t))
    have c1 : dm_canEmpty v (nI c) = (ts_b (dm_next v1 (nI c) 0) fun r z => dm_canEmpty_34 40 z (nI c) r 0) := c1
    have first : ∀ w : ts_S, ey v w → dm_next w (nI c) 0 = some (hd0 l, w) := fun w hw => by
      have w6 : w.2 6 = u.2 6 := by rw [hw.2 6 (by decide) (by decide)]; exact rel_j hr (by decide) (by decide) (by decide) (by decide)
      have w5 : w.2 5 = u.2 5 := by rw [hw.2 5 (by decide) (by decide)]; exact rel_j hr (by decide) (by decide) (by decide) (by decide)
      have w2 : w.2 2 = u.2 2 := by rw [hw.2 2 (by decide) (by decide)]; exact rel_j hr (by decide) (by decide) (by decide) (by decide)
      refine pm_nxt (p := 0) (P := P) l (by omega) (fun y hy16 => ?_) (fun y hyl => ?_) a7
      · have hlc : lc w (nI c) y ↔ (lv u y ∧ C y = c) := by
          rw [← lc_C hi hy16 hc]
          unfold lc
          rw [w2, w5]
        rw [hlc, w6, a6 y]
        constructor
        · rintro ⟨a1, a2⟩
          exact ⟨hy16, a1⟩
        · rintro ⟨-, a1⟩
          refine ⟨a1, ?_⟩
          rw [(hi.2.2.2.2.2.1 y hy16 a1.1).2.2.1]
          have := lv_P hi hy16 a1.1
          exact nI_nlt (Nat.zero_le _) (by omega)
      · obtain ⟨y1, y2, y3⟩ := (a6 y).mp hyl
        have := lv_P hi y1 y2
        exact ⟨y1, by rw [w6]; exact (hi.2.2.2.2.2.1 y y1 y2).2.2.1, by omega⟩
    obtain ⟨r', v2, d1, d2, d3⟩ := pm_try_l hr hi hc l h16 a6 a7 l 0 40 v1 E rfl (Nat.zero_le _) (by omega) c2 (fun j hj => by
      refine ⟨(hi.2.2.2.1 j hj).1, ?_⟩
      rw [c3 j hj, rel_j hr (by decide) (by decide) (by decide) (by decide)]
      exact (hi.2.2.2.1 j hj).2)
    rw [c1, first v1 c2]
    simp only [ts_b]
    have d1 : dm_canEmpty_34 40 v1 (nI c) (hd0 l) 0 = some (r', v2) := d1
    rw [d1]
    simp only []
    have rel2 : rel w2 v2 := rel_ey hr b3 d3
    rcases b2 with ⟨rfl, tp⟩ | ⟨rfl, tn⟩
    · rcases d2 with ⟨rfl, -⟩ | ⟨-, tn⟩
      · rw [if_neg pu_10, if_neg pu_10, first v2 d3]
        simp only []
        have lv2 : ∀ x, lv w2 x ↔ lv u x := fun x => by
          unfold lv
          rw [b3.2 2 (by decide) (by decide)]
        exact sim_moves hc l h16 l 0 40 w2 v2 E N C P rfl (Nat.zero_le _) (by omega) rel2 (iv_ey hi b3) b4 b5 (fun x => by rw [a6 x, lv2 x]) a7 tp
      · exact absurd tp tn
    · rcases d2 with ⟨-, tp⟩ | ⟨rfl, -⟩
      · exact absurd tp tn
      · rw [if_pos rfl, if_pos rfl]
        exact ⟨_, _, _, rfl, rfl, rel2, L, E, N, C, P, iv_ey hi b3⟩
