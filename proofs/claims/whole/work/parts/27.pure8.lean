/-! pure: create, copying, backUp, lose side by side -/
theorem sim_zero (f : Nat) (hf : f < 16) (x : Int32) : ∀ (d j k : Nat) (u v : ts_S), j + d = 4 → d < k → rel u v → ∃ w z, dt_create_57 k u (nI f) x (nI j) = some (0, us f w) ∧ dm_create_57 k v (nI f) x (nI j) = some (0, us f z) ∧ rel w z ∧ w.1 = u.1 ∧ ∀ t, t < 20 → w.2 t = u.2 t := by
  intro d
  induction d with
  | zero =>
    intro j k u v hj hk hr
    obtain ⟨k, rfl⟩ := pu_nn hk
    obtain rfl : j = 4 := by omega
    refine ⟨u, v, ?_, ?_, hr, rfl, fun _ _ => rfl⟩
    · show dt_create_57_b (dt_create_57 k) u (nI f) x (nI 4) = _
      unfold dt_create_57_b
      rw [if_pos (by decide), pt_use u hf]
      rfl
    · show dm_create_57_b (dm_create_57 k) v (nI f) x (nI 4) = _
      unfold dm_create_57_b
      rw [if_pos (by decide), pm_use v hf]
      rfl
  | succ d ih =>
    intro j k u v hj hk hr
    obtain ⟨k, rfl⟩ := pu_nn hk
    have h : j < 4 := by omega
    have hfj : f * 4 + j < 64 := by omega
    obtain ⟨w, z, i1, i2, i3, i4, i5⟩ := ih (j + 1) k (ts_a (20 + f) j 0 u) (ts_a 4 (f * 4 + j) 0 v) (by omega) (by omega) (rel_cell hr 0 hf h)
    refine ⟨w, z, ?_, ?_, i3, i4, fun t ht => ?_⟩
    · show dt_create_57_b (dt_create_57 k) u (nI f) x (nI j) = _
      unfold dt_create_57_b
      rw [if_neg (pu_4 h)]
      simp only [pu_ix hf (by decide), pu_cl hf, pu_ix h (by decide), pu_cl (show j < 16 by omega), nI_1]
      exact i1
    · show dm_create_57_b (dm_create_57 k) v (nI f) x (nI j) = _
      unfold dm_create_57_b
      rw [if_neg (pu_4 h)]
      simp only [pu_ij hf h, pu_ix hfj (by decide), pu_clk hfj, nI_1]
      exact i2
    · rw [i5 t ht]
      exact if_neg (by omega)
theorem sim_create {u v : ts_S} (h : ri u v) (x y : Int32) : ∃ r w z, dt_create u x y = some (r, w) ∧ dm_create v x y = some (r, z) ∧ ri w z := by
  obtain ⟨hr, L, E, N, C, P, hi⟩ := h
  have hri : ri u v := ⟨hr, L, E, N, C, P, hi⟩
  have e2 := rel_j hr (j := 2) (by decide) (by decide) (by decide) (by decide)
  unfold dt_create dm_create
  rcases pk_ix x (n := 16) (by decide) with q | q | ⟨f, hf, rfl⟩
  · rw [pt_isF0 u (Or.inl q), pm_in0 v (Or.inl q)]
    exact ⟨_, _, _, rfl, rfl, hri⟩
  · rw [pt_isF0 u (Or.inr q), pm_in0 v (y := 16) (Or.inr q)]
    exact ⟨_, _, _, rfl, rfl, hri⟩
  · rw [pt_isF1 u hf, pm_inF v hf]
    simp only [ts_b, pu_ix hf (by decide), pu_cl hf]
    rw [if_neg pu_10, if_neg pu_10]
    by_cases y1 : y < 1
    · rw [if_pos y1, if_pos y1]
      exact ⟨_, _, _, rfl, rfl, hri⟩
    rw [if_neg y1, if_neg y1]
    by_cases y4 : y ≤ 4
    · rw [if_pos y4, if_neg (Int32.not_lt.mpr y4), e2]
      obtain ⟨n, hn, rfl⟩ : ∃ n, (1 ≤ n ∧ n ≤ 4) ∧ y = nI n := by
        have h0 : ¬ y < 0 := fun q => y1 (Int32.lt_trans q (by decide))
        obtain ⟨n, hn, e⟩ := nI_of2 (M := 4) (n := 4) (by decide) h0 y4
        refine ⟨n, ⟨?_, hn⟩, e⟩
        rcases Nat.eq_zero_or_pos n with q | q
        · rw [e, q] at y1
          exact absurd (by decide) y1
        · exact q
      by_cases s0 : u.2 2 f = 0
      · rw [if_pos s0, if_pos s0]
        obtain ⟨r, st, r1, st1, m1, m2, m3, m4⟩ := sim_mr hr hi (nI n)
        rw [m1, m2]
        simp only []
        rcases r1 with rfl | rfl
        · rw [if_pos rfl, if_pos rfl]
          exact ⟨_, _, _, rfl, rfl, m3, L, E, N, C, P, m4⟩
        · rw [if_neg pu_10, if_neg pu_10]
          obtain ⟨w, z, z1, z2, z3, z4, z5⟩ := sim_zero f hf (nI n) 4 0 40 (ts_a 3 f (nI n) (ts_a 2 f 1 (s2 st u))) (ts_a 3 f (nI n) (ts_a 2 f 1 (s2 st v))) rfl (by decide) (rel_a (rel_a m3 f 1 (by decide) (by decide)) f (nI n) (by decide) (by decide))
          refine ⟨0, us f w, us f z, z1, z2, rel_us z3 f, L, E, va_up N f n, C, P, iv_us ?_ f⟩
          obtain ⟨i1, i2, i3, i4, i5, i6, i7, i8⟩ := m4
          have a2 : w.2 2 = upd st f 1 := z5 2 (by decide)
          have a3 : w.2 3 = upd (u.2 3) f (nI n) := z5 3 (by decide)
          have a5 : w.2 5 = u.2 5 := z5 5 (by decide)
          have a6 : w.2 6 = u.2 6 := z5 6 (by decide)
          have a7 : w.2 7 = u.2 7 := z5 7 (by decide)
          have a10 : w.2 10 = u.2 10 := z5 10 (by decide)
          have live : ∀ g, lv w g → lv (s2 st u) g ∧ g ≠ f := fun g q => by
            unfold lv at q
            rw [a2] at q
            by_cases e : g = f
            · have : upd st f 1 g = 1 := if_pos e
              rw [this] at q
              rcases q with q | q <;> exact absurd q (by decide)
            · have : upd st f 1 g = st g := if_neg e
              rw [this] at q
              exact ⟨q, e⟩
          have nf : ∀ g, g ≠ f → va_up N f n g = N g := fun g q => if_neg q
          refine ⟨⟨i1.1, by rw [z4]; exact i1.2⟩, by rw [z4]; exact i2, by rw [z4]; exact i3, fun c hc => by rw [a10]; exact i4 c hc, fun g hg => ?_, fun g hg q => ?_, fun g g' hg hg' q q' => i7 g g' hg hg' (live g q).1 (live g' q').1, by rw [a7]; exact i8⟩
          · by_cases e : g = f
            · have e1 : va_up N f n g = n := if_pos e
              have e3 : upd (u.2 3) f (nI n) g = nI n := if_pos e
              rw [a3, e1, e3]
              exact ⟨hn.2, rfl, fun _ => hn.1⟩
            · have e3 : upd (u.2 3) f (nI n) g = u.2 3 g := if_neg e
              have e4 : upd st f 1 g = st g := if_neg e
              rw [a3, a2, nf g e, e3, e4]
              exact i5 g hg
          · obtain ⟨l1, l2⟩ := live g q
            rw [a5, a6, nf g l2]
            exact i6 g hg l1
      · rw [if_neg s0, if_neg s0]
        exact ⟨_, _, _, rfl, rfl, hri⟩
    · rw [if_neg y4, if_pos (Int32.not_le.mp y4)]
      exact ⟨_, _, _, rfl, rfl, hri⟩
/-- the copy of the file f of n units is put at the end e of c, the head moves -/
def pc (u : ts_S) (f c e n : Nat) (d : Int32) : ts_S := mv (ts_a 10 c (nI (e + n)) (ts_a 6 f (nI e) (ts_a 5 f (nI c) u))) (nI c) (nI e) (nI n) d
theorem rel_pc {u v : ts_S} (h : rel u v) {f c e n : Nat} (d : Int32) (hc : c < 4) : rel (pc u f c e n d) (pc v f c e n d) :=
  rel_mv (rel_a (rel_a (rel_a h f (nI c) (by decide) (by decide)) f (nI e) (by decide) (by decide)) c (nI (e + n)) (by decide) (by decide)) (pu_m1 (by omega))
theorem iv_pc {u : ts_S} {L : Nat} {E N C P : Nat → Nat} (hi : iv u L E N C P) {f c : Nat} (d : Int32) {st : Nat → Int32} (hf : f < 16) (hc : c < 4) (hnz : ¬ u.2 2 f = 0) (hfit : E c + N f ≤ L) (hl : ∀ g, g < 16 → g ≠ f → (st g = 2 ∨ st g = 3) → lv u g) (hz : ∀ g, g < 16 → ¬ st g = 0 → ¬ u.2 2 g = 0) : iv (s2 st (pc u f c (E c) (N f) d)) L (va_up E c (E c + N f)) N (va_up C f c) (va_up P f (E c)) := by
  obtain ⟨i1, i2, i3, i4, i5, i6, i7, i8⟩ := hi
  have n1 := (i5 f hf).2.2 hnz
  have hLc := (i4 c hc).1
  have Ege : ∀ k, E k ≤ va_up E c (E c + N f) k := fun k => by
    show E k ≤ (if k = c then E c + N f else E k)
    by_cases q : k = c
    · rw [if_pos q, q]; omega
    · rw [if_neg q]; exact Nat.le_refl _
  have Cf : va_up C f c f = c := if_pos rfl
  have Pf : va_up P f (E c) f = E c := if_pos rfl
  have Cg : ∀ g, g ≠ f → va_up C f c g = C g := fun g q => if_neg q
  have Pg : ∀ g, g ≠ f → va_up P f (E c) g = P g := fun g q => if_neg q
  have lt : ∀ g, g < 16 → g ≠ f → (st g = 2 ∨ st g = 3) → C g = c → P g < E c := fun g hg hgf q hcc => by
    have l := hl g hg hgf q
    have z := (i6 g hg l).2.2.2
    have m1 := (i5 g hg).2.2 (by rcases l with l | l <;> rw [l] <;> decide)
    rw [hcc] at z
    omega
  refine ⟨⟨i1.1, ?_⟩, Or.inr ⟨c, hc, rfl⟩, ⟨E c + N f, by omega, nI_add _ _⟩, fun k hk => ?_, fun g hg => ?_, fun g hg q => ?_, fun g g' hg hg' q q' hne hcc => ?_, i8⟩
  · exact i1.2
  · show va_up E c (E c + N f) k ≤ L ∧ upd (u.2 10) c (nI (E c + N f)) k = nI (va_up E c (E c + N f) k)
    by_cases z : k = c
    · have e1 : va_up E c (E c + N f) k = E c + N f := if_pos z
      have e2 : upd (u.2 10) c (nI (E c + N f)) k = nI (E c + N f) := if_pos z
      rw [e1, e2]
      exact ⟨hfit, rfl⟩
    · have e1 : va_up E c (E c + N f) k = E k := if_neg z
      have e2 : upd (u.2 10) c (nI (E c + N f)) k = u.2 10 k := if_neg z
      rw [e1, e2]
      exact i4 k hk
  · exact ⟨(i5 g hg).1, (i5 g hg).2.1, fun z => (i5 g hg).2.2 (hz g hg z)⟩
  · show va_up C f c g < 4 ∧ upd (u.2 5) f (nI c) g = nI (va_up C f c g) ∧ upd (u.2 6) f (nI (E c)) g = nI (va_up P f (E c) g) ∧ va_up P f (E c) g + N g ≤ va_up E c (E c + N f) (va_up C f c g)
    by_cases z : g = f
    · subst z
      have e5 : upd (u.2 5) g (nI c) g = nI c := if_pos rfl
      have e6 : upd (u.2 6) g (nI (E c)) g = nI (E c) := if_pos rfl
      have e1 : va_up E c (E c + N g) c = E c + N g := if_pos rfl
      rw [Cf, Pf, e5, e6, e1]
      exact ⟨hc, rfl, rfl, Nat.le_refl _⟩
    · have e5 : upd (u.2 5) f (nI c) g = u.2 5 g := if_neg z
      have e6 : upd (u.2 6) f (nI (E c)) g = u.2 6 g := if_neg z
      obtain ⟨z1, z2, z3, z4⟩ := i6 g hg (hl g hg z q)
      rw [Cg g z, Pg g z, e5, e6]
      exact ⟨z1, z2, z3, Nat.le_trans z4 (Ege _)⟩
  · by_cases z : g = f
    · subst z
      have z' : g' ≠ g := fun e => hne e.symm
      rw [Cf, Cg g' z'] at hcc
      rw [Pf, Pg g' z']
      have := lt g' hg' z' q' hcc.symm
      omega
    · by_cases z' : g' = f
      · subst z'
        rw [Cf, Cg g z] at hcc
        rw [Pf, Pg g z]
        have := lt g hg z q hcc
        omega
      · rw [Cg g z, Cg g' z'] at hcc
        rw [Pg g z, Pg g' z']
        exact i7 g g' hg hg' (hl g hg z q) (hl g' hg' z' q') hne hcc
theorem pt_put {u : ts_S} {L : Nat} {E N C P : Nat → Nat} (hi : iv u L E N C P) {f c : Nat} (hf : f < 16) (hc : c < 4) {d : Int32} (hd : dp_pass (ts_a 5 f (nI c) u) (nI c) (nI (E c)) (nI (N f)) = some (0, mv (ts_a 5 f (nI c) u) (nI c) (nI (E c)) (nI (N f)) d)) : dt_putCopy u (nI f) (nI c) = some (0, pc u f c (E c) (N f) d) := by
  have e10 : (ts_a 5 f (nI c) u).2 10 c = nI (E c) := (hi.2.2.2.1 c hc).2
  have e3 : (ts_a 5 f (nI c) u).2 3 f = nI (N f) := (hi.2.2.2.2.1 f hf).2.1
  unfold dt_putCopy dp_append
  simp only [pu_ix hf (by decide), pu_cl hf, pu_ix hc (by decide), pu_cl (show c < 16 by omega)]
  rw [e10, e3, hd]
  simp only [ts_b]
  refine congrArg (fun z => some ((0 : Int32), z)) (ts_ext (fun k => ?_) (fun j => ?_))
  · rfl
  · show (if j = 6 then upd _ f (nI (E c)) else (if j = 10 then upd _ c ((ts_a 5 f (nI c) u).2 10 c + nI (N f)) else (if j = 5 then upd (u.2 5) f (nI c) else u.2 j))) = (if j = 10 then upd _ c (nI (E c + N f)) else (if j = 6 then upd _ f (nI (E c)) else (if j = 5 then upd (u.2 5) f (nI c) else u.2 j)))
    rw [e10, nI_add]
    by_cases q : j = 6
    · rw [if_pos q, if_neg (by omega), if_pos q]
      rfl
    · rw [if_neg q]
      by_cases q2 : j = 10
      · rw [if_pos q2, if_pos q2]
        rfl
      · rw [if_neg q2, if_neg q2, if_neg q]
/-- the reference's search for a cartridge, from the last to the first -/
theorem pm_best_l (u : ts_S) {f : Nat} (hf : f < 16) (y : Int32) : ∀ (j k : Nat) (b : Int32), j ≤ 4 → j < k → ((b = -1 ∧ ∀ c, j ≤ c → c < 4 → ¬ (¬ nI c = y ∧ ¬ nI c = u.1 4 ∧ ¬ u.1 3 < u.2 10 c + u.2 3 f)) ∨ ∃ c, j ≤ c ∧ c < 4 ∧ b = nI c ∧ (¬ nI c = y ∧ ¬ nI c = u.1 4 ∧ ¬ u.1 3 < u.2 10 c + u.2 3 f) ∧ ∀ t, j ≤ t → t < c → ¬ (¬ nI t = y ∧ ¬ nI t = u.1 4 ∧ ¬ u.1 3 < u.2 10 t + u.2 3 f)) →
    ∃ b' K, dm_copy_5 k u (nI f) y b (nI j + (-1)) = dm_copy_5_b K u (nI f) y b' (-1) ∧ fs (fun c => ¬ nI c = y ∧ ¬ nI c = u.1 4 ∧ ¬ u.1 3 < u.2 10 c + u.2 3 f) b' := by
  intro j
  induction j with
  | zero =>
    intro k b hj hk hb
    obtain ⟨k, rfl⟩ := pu_nn hk
    refine ⟨b, dm_copy_5 k, rfl, ?_⟩
    rcases hb with ⟨b1, b2⟩ | ⟨c, c1, c2, c3, c4, c5⟩
    · exact Or.inl ⟨b1, fun c hc => b2 c (Nat.zero_le c) hc⟩
    · exact Or.inr ⟨c, c2, c3, c4, fun t ht => c5 t (Nat.zero_le t) ht⟩
  | succ j ih =>
    intro k b hj hk hb
    obtain ⟨k, rfl⟩ := pu_nn hk
    have h : j < 4 := by omega
    rw [pk_m1]
    have e : dm_copy_5 (k + 1) u (nI f) y b (nI j) = dm_copy_5_b (dm_copy_5 k) u (nI f) y b (nI j) := rfl
    have skip : ¬ (¬ nI j = y ∧ ¬ nI j = u.1 4 ∧ ¬ u.1 3 < u.2 10 j + u.2 3 f) → ((b = -1 ∧ ∀ c, j ≤ c → c < 4 → ¬ (¬ nI c = y ∧ ¬ nI c = u.1 4 ∧ ¬ u.1 3 < u.2 10 c + u.2 3 f)) ∨ ∃ c, j ≤ c ∧ c < 4 ∧ b = nI c ∧ (¬ nI c = y ∧ ¬ nI c = u.1 4 ∧ ¬ u.1 3 < u.2 10 c + u.2 3 f) ∧ ∀ t, j ≤ t → t < c → ¬ (¬ nI t = y ∧ ¬ nI t = u.1 4 ∧ ¬ u.1 3 < u.2 10 t + u.2 3 f)) := by
      intro hs
      rcases hb with ⟨b1, b2⟩ | ⟨c, c1, c2, c3, c4, c5⟩
      · refine Or.inl ⟨b1, fun c h1 h2 => ?_⟩
        rcases Nat.lt_or_ge j c with q | q
        · exact b2 c q h2
        · obtain rfl : c = j := by omega
          exact hs
      · refine Or.inr ⟨c, by omega, c2, c3, c4, fun t h1 h2 => ?_⟩
        rcases Nat.lt_or_ge j t with q | q
        · exact c5 t q h2
        · obtain rfl : t = j := by omega
          exact hs
    have body : dm_copy_5_b (dm_copy_5 k) u (nI f) y b (nI j) = (if nI j = y then dm_copy_5 k u (nI f) y b (nI j + (-1)) else if nI j = u.1 4 then dm_copy_5 k u (nI f) y b (nI j + (-1)) else if u.1 3 < u.2 10 j + u.2 3 f then dm_copy_5 k u (nI f) y b (nI j + (-1)) else dm_copy_5 k u (nI f) y (nI j) (nI j + (-1))) := by
      unfold dm_copy_5_b
      rw [if_neg (nI_pos (by omega))]
      simp only [pu_ix hf (by decide), pu_cl hf, pu_ix h (by decide), pu_cl (show j < 16 by omega)]
    rw [e, body]
    by_cases h1 : nI j = y
    · rw [if_pos h1]
      exact ih k b (by omega) (by omega) (skip (fun q => q.1 h1))
    · rw [if_neg h1]
      by_cases h2 : nI j = u.1 4
      · rw [if_pos h2]
        exact ih k b (by omega) (by omega) (skip (fun q => q.2.1 h2))
      · rw [if_neg h2]
        by_cases h3 : u.1 3 < u.2 10 j + u.2 3 f
        · rw [if_pos h3]
          exact ih k b (by omega) (by omega) (skip (fun q => q.2.2 h3))
        · rw [if_neg h3]
          exact ih k (nI j) (by omega) (by omega) (Or.inr ⟨j, Nat.le_refl j, h, rfl, ⟨h1, h2, h3⟩, fun t h1 h2 => absurd h1 (by omega)⟩)
