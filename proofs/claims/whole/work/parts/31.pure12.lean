/-! pure: serve's order on the reference's side, and serve side by side -/
def zw (w : Nat → Int32) : Nat → Nat → Int32
  | 0 => w
  | n + 1 => upd (zw w n) n 0
theorem zw_ge (w : Nat → Int32) : ∀ (n x : Nat), n ≤ x → zw w n x = w x := by
  intro n
  induction n with
  | zero => intro x _; rfl
  | succ n ih =>
    intro x hx
    show (if x = n then (0 : Int32) else zw w n x) = w x
    rw [if_neg (by omega)]
    exact ih x (by omega)
theorem zw_or (w : Nat → Int32) : ∀ (n x : Nat), zw w n x = w x ∨ zw w n x = 0 := by
  intro n
  induction n with
  | zero => intro x; exact Or.inl rfl
  | succ n ih =>
    intro x
    show (if x = n then (0 : Int32) else zw w n x) = w x ∨ (if x = n then (0 : Int32) else zw w n x) = 0
    by_cases q : x = n
    · rw [if_pos q]; exact Or.inr rfl
    · rw [if_neg q]; exact ih x
def s7 (w : Nat → Int32) (u : ts_S) : ts_S := (u.1, va_up u.2 7 w)
theorem s7_s7 (a b : Nat → Int32) (u : ts_S) : s7 a (s7 b u) = s7 a u := by
  refine ts_ext (fun k => rfl) (fun j => ?_)
  show (if j = 7 then a else (if j = 7 then b else u.2 j)) = (if j = 7 then a else u.2 j)
  by_cases h : j = 7
  · rw [if_pos h, if_pos h]
  · rw [if_neg h, if_neg h, if_neg h]
theorem s7_self (u : ts_S) : s7 (u.2 7) u = u := by
  refine ts_ext (fun k => rfl) (fun j => ?_)
  show (if j = 7 then u.2 7 else u.2 j) = u.2 j
  by_cases h : j = 7
  · rw [if_pos h, h]
  · rw [if_neg h]
theorem pt_clear_l (u : ts_S) : ∀ (d j k : Nat), j + d = 16 → d < k → dt_serve_6 k (s7 (zw (u.2 7) j) u) (nI j) = dt_serve_29 40 (s7 (zw (u.2 7) 16) u) 0 0 := by
  intro d
  induction d with
  | zero =>
    intro j k hj hk
    obtain ⟨k, rfl⟩ := pu_nn hk
    obtain rfl : j = 16 := by omega
    show dt_serve_6_b (dt_serve_6 k) (s7 (zw (u.2 7) 16) u) (nI 16) = _
    unfold dt_serve_6_b
    rw [if_pos (by decide)]
  | succ d ih =>
    intro j k hj hk
    obtain ⟨k, rfl⟩ := pu_nn hk
    have h : j < 16 := by omega
    show dt_serve_6_b (dt_serve_6 k) (s7 (zw (u.2 7) j) u) (nI j) = _
    unfold dt_serve_6_b
    rw [if_neg (pu_16 h), pu_ix h (by decide), pu_cl h, nI_1]
    have e : ts_a 7 j 0 (s7 (zw (u.2 7) j) u) = s7 (zw (u.2 7) (j + 1)) u := s7_s7 _ _ u
    rw [e]
    exact ih (j + 1) k (by omega) (by omega)
/-- the reference's first loop -/
theorem pm_col_l (v : ts_S) : ∀ (d j k : Nat) (w : ts_S), j + d = 16 → d < k → w.1 = v.1 → (∀ t, t ≠ 7 → t ≠ 9 → w.2 t = v.2 t) → w.2 7 = zw (v.2 7) j → ag (w.2 9) ((List.range j).filter (wq v)) → ∃ w', dm_serve_4 k w (nI ((List.range j).filter (wq v)).length) (nI j) = dm_serve_54 40 w' (nI ((List.range 16).filter (wq v)).length) 0 ∧ w'.1 = v.1 ∧ (∀ t, t ≠ 7 → t ≠ 9 → w'.2 t = v.2 t) ∧ w'.2 7 = zw (v.2 7) 16 ∧ ag (w'.2 9) ((List.range 16).filter (wq v)) := by
  intro d
  induction d with
  | zero =>
    intro j k w hj hk h1 h2 h7 h9
    obtain ⟨k, rfl⟩ := pu_nn hk
    obtain rfl : j = 16 := by omega
    refine ⟨w, ?_, h1, h2, h7, h9⟩
    show dm_serve_4_b (dm_serve_4 k) w _ (nI 16) = _
    unfold dm_serve_4_b
    rw [if_pos (by decide)]
  | succ d ih =>
    intro j k w hj hk h1 h2 h7 h9
    obtain ⟨k, rfl⟩ := pu_nn hk
    have h : j < 16 := by omega
    have hlen : ((List.range j).filter (wq v)).length < 16 := by
      have := List.length_filter_le (wq v) (List.range j)
      rw [List.length_range] at this
      omega
    have w7 : w.2 7 j = v.2 7 j := by rw [h7]; exact zw_ge _ _ _ (Nat.le_refl j)
    have w2 : w.2 2 j = v.2 2 j := by rw [h2 2 (by decide) (by decide)]
    have e : dm_serve_4 (k + 1) w (nI ((List.range j).filter (wq v)).length) (nI j) = dm_serve_4_b (dm_serve_4 k) w (nI ((List.range j).filter (wq v)).length) (nI j) := rfl
    rw [e]
    unfold dm_serve_4_b
    rw [if_neg (pu_16 h)]
    simp only [pu_ix h (by decide), pu_cl h, pu_ix hlen (by decide), pu_cl hlen, nI_1, w7, w2]
    have skip : wq v j = false → ∃ w', dm_serve_4 k (ts_a 7 j 0 w) (nI ((List.range j).filter (wq v)).length) (nI (j + 1)) = dm_serve_54 40 w' (nI ((List.range 16).filter (wq v)).length) 0 ∧ w'.1 = v.1 ∧ (∀ t, t ≠ 7 → t ≠ 9 → w'.2 t = v.2 t) ∧ w'.2 7 = zw (v.2 7) 16 ∧ ag (w'.2 9) ((List.range 16).filter (wq v)) := by
      intro hq
      have e1 : (List.range (j + 1)).filter (wq v) = (List.range j).filter (wq v) := by
        rw [List.range_succ, List.filter_append, List.filter_cons, hq]
        simp
      have := ih (j + 1) k (ts_a 7 j 0 w) (by omega) (by omega) h1 (fun t t7 t9 => by
        show (if t = 7 then _ else w.2 t) = v.2 t
        rw [if_neg t7]
        exact h2 t t7 t9) (by
        show upd (w.2 7) j 0 = upd (zw (v.2 7) j) j 0
        rw [h7]) (by rw [e1]; exact h9)
      rw [e1] at this
      exact this
    by_cases c1 : v.2 7 j = 0
    · rw [if_pos c1]
      exact skip (by unfold wq; simp [c1])
    · rw [if_neg c1]
      by_cases c2 : v.2 2 j = 3
      · rw [if_pos c2]
        have hq : wq v j = true := by unfold wq; simp [c1, c2]
        have e1 : (List.range (j + 1)).filter (wq v) = (List.range j).filter (wq v) ++ [j] := by
          rw [List.range_succ, List.filter_append, List.filter_cons, hq]
          simp
        have := ih (j + 1) k (ts_a 7 j 0 (ts_a 9 ((List.range j).filter (wq v)).length (nI j) w)) (by omega) (by omega) h1 (fun t t7 t9 => by
          show (if t = 7 then _ else (if t = 9 then _ else w.2 t)) = v.2 t
          rw [if_neg t7, if_neg t9]
          exact h2 t t7 t9) (by
          show upd (w.2 7) j 0 = upd (zw (v.2 7) j) j 0
          rw [h7]) (by rw [e1]; exact ag_push h9 j)
        rw [e1, List.length_append, List.length_singleton] at this
        exact this
      · rw [if_neg c2]
        exact skip (by unfold wq; simp [c2])
/-- sorting: the row holds a, the first i are in their places -/
def so (z : ts_S) (g : List Nat) (n : Nat) (rk : Nat → Nat) (i : Nat) (w : ts_S) (a : Nat → Nat) : Prop := w.1 = z.1 ∧ (∀ t, t ≠ 9 → w.2 t = z.2 t) ∧ (∀ t, t < n → w.2 9 t = nI (a t)) ∧ (∀ x, (∃ t, t < n ∧ a t = x) ↔ x ∈ g) ∧ (∀ s t, s < n → t < n → a s = a t → s = t) ∧ ∀ s t, s < i → s < t → t < n → rk (a s) ≤ rk (a t)
def sw (a : Nat → Nat) (k : Nat) : Nat → Nat := fun t => if t = k then a (k + 1) else if t = k + 1 then a k else a t
theorem sw_0 (a : Nat → Nat) (k : Nat) : sw a k k = a (k + 1) := if_pos rfl
theorem sw_1 (a : Nat → Nat) (k : Nat) : sw a k (k + 1) = a k := by
  show (if k + 1 = k then a (k + 1) else if k + 1 = k + 1 then a k else a (k + 1)) = a k
  rw [if_neg (by omega), if_pos rfl]
theorem sw_n (a : Nat → Nat) {k t : Nat} (h1 : t ≠ k) (h2 : t ≠ k + 1) : sw a k t = a t := by
  show (if t = k then a (k + 1) else if t = k + 1 then a k else a t) = a t
  rw [if_neg h1, if_neg h2]
theorem so_sw {z w : ts_S} {g : List Nat} {n i k : Nat} {rk : Nat → Nat} {a : Nat → Nat} (h : so z g n rk i w a) (hi : i ≤ k) (hk : k + 1 < n) : so z g n rk i (ts_a 9 k (nI (a (k + 1))) (ts_a 9 (k + 1) (nI (a k)) w)) (sw a k) := by
  obtain ⟨h1, h2, h3, h4, h5, h6⟩ := h
  have img : ∀ t, t < n → ∃ t', t' < n ∧ sw a k t = a t' ∧ (t' = t ∨ (k ≤ t ∧ k ≤ t')) := fun t ht => by
    by_cases q : t = k
    · exact ⟨k + 1, hk, by rw [q, sw_0], Or.inr ⟨by omega, by omega⟩⟩
    · by_cases q2 : t = k + 1
      · exact ⟨k, by omega, by rw [q2, sw_1], Or.inr ⟨by omega, Nat.le_refl k⟩⟩
      · exact ⟨t, ht, sw_n a q q2, Or.inl rfl⟩
  refine ⟨h1, fun t ht => ?_, fun t ht => ?_, fun x => ⟨fun q => ?_, fun q => ?_⟩, fun s t hs ht e => ?_, fun s t hs hst ht => ?_⟩
  · show (if t = 9 then _ else (if t = 9 then _ else w.2 t)) = z.2 t
    rw [if_neg ht, if_neg ht]
    exact h2 t ht
  · show (if t = k then nI (a (k + 1)) else (if t = k + 1 then nI (a k) else w.2 9 t)) = nI (sw a k t)
    by_cases q : t = k
    · rw [if_pos q, q, sw_0]
    · rw [if_neg q]
      by_cases q2 : t = k + 1
      · rw [if_pos q2, q2, sw_1]
      · rw [if_neg q2, sw_n a q q2]
        exact h3 t ht
  · obtain ⟨t, ht, e⟩ := q
    obtain ⟨t', ht', e', -⟩ := img t ht
    exact (h4 x).mp ⟨t', ht', by rw [← e', e]⟩
  · obtain ⟨t, ht, e⟩ := (h4 x).mpr q
    by_cases q : t = k
    · exact ⟨k + 1, hk, by rw [sw_1, ← q, e]⟩
    · by_cases q2 : t = k + 1
      · exact ⟨k, by omega, by rw [sw_0, ← q2, e]⟩
      · exact ⟨t, ht, by rw [sw_n a q q2, e]⟩
  · by_cases s1 : s = k
    · by_cases t1 : t = k
      · omega
      · by_cases t2 : t = k + 1
        · rw [s1, t2, sw_0, sw_1] at e
          have := h5 _ _ hk (by omega) e
          omega
        · rw [s1, sw_0, sw_n a t1 t2] at e
          have := h5 _ _ hk ht e
          omega
    · by_cases s2 : s = k + 1
      · by_cases t1 : t = k
        · rw [s2, t1, sw_1, sw_0] at e
          have := h5 _ _ (by omega) hk e
          omega
        · by_cases t2 : t = k + 1
          · omega
          · rw [s2, sw_1, sw_n a t1 t2] at e
            have := h5 _ _ (by omega) ht e
            omega
      · rw [sw_n a s1 s2] at e
        obtain ⟨t', ht', e', q⟩ := img t ht
        rw [e'] at e
        have := h5 _ _ hs ht' e
        by_cases t1 : t = k
        · rw [t1, sw_0] at e'
          have := h5 _ _ hk ht' e'
          omega
        · by_cases t2 : t = k + 1
          · rw [t2, sw_1] at e'
            have := h5 _ _ (by omega) ht' e'
            omega
          · rw [sw_n a t1 t2] at e'
            have := h5 _ _ ht ht' e'
            omega
  · obtain ⟨t', ht', e', q⟩ := img t ht
    rw [sw_n a (by omega) (by omega), e']
    exact h6 s t' hs (by omega) ht'
theorem pm_rank {z w : ts_S} {L : Nat} {E N C P : Nat → Nat} (hi : iv z L E N C P) (h1 : w.1 4 = z.1 4) (h5 : w.2 5 = z.2 5) (h6 : w.2 6 = z.2 6) {x : Nat} (hx : x < 16) (hv : lv z x) : dm_rank w (nI x) = some (nI (rkN (z.1 4) C P x), w) ∧ rkN (z.1 4) C P x < 1000 := by
  obtain ⟨c1, c2, c3, c4⟩ := hi.2.2.2.2.2.1 x hx hv
  have hP := lv_P hi hx hv
  unfold dm_rank
  simp only [pu_ix hx (by decide), pu_cl hx]
  rw [h1, h5, h6, c2, c3]
  by_cases q : nI (C x) = z.1 4
  · rw [if_pos q, rk_h q]
    refine ⟨?_, by omega⟩
    have e : (0 : Int32) = nI 0 := rfl
    rw [e, nI_add, Nat.zero_add]
  · rw [if_neg q, rk_n q]
    refine ⟨?_, by omega⟩
    have e : (100 : Int32) = nI 100 := rfl
    rw [e, pk_mul, nI_add, nI_add]
theorem pm_sort_in {y z : ts_S} {L : Nat} {E N C P : Nat → Nat} (hi : iv y L E N C P) (e4 : z.1 4 = y.1 4) (e5 : z.2 5 = y.2 5) (e6 : z.2 6 = y.2 6) {g : List Nat} {n : Nat} (hn : n ≤ 16) (hg : ∀ x ∈ g, x < 16 ∧ lv y x) (K : ts_S → Int32 → Int32 → Option (Int32 × ts_S)) {i : Nat} (hin : i < n) : ∀ (k f : Nat) (w : ts_S) (a : Nat → Nat), i ≤ k → k < n → k < f → so z g n (rkN (y.1 4) C P) i w a → (∀ t, k ≤ t → t < n → rkN (y.1 4) C P (a k) ≤ rkN (y.1 4) C P (a t)) → ∃ w' a', dm_serve_63 K f w (nI n) (nI i) (nI k) = K w' (nI n) (nI (i + 1)) ∧ so z g n (rkN (y.1 4) C P) (i + 1) w' a' := by
  intro k
  induction k with
  | zero =>
    intro f w a hik hk hf h hm
    obtain ⟨f, rfl⟩ := pu_nn hf
    obtain rfl : i = 0 := by omega
    refine ⟨w, a, ?_, h.1, h.2.1, h.2.2.1, h.2.2.2.1, h.2.2.2.2.1, fun s t hs hst ht => ?_⟩
    · show dm_serve_63_b K (dm_serve_63 K f) w (nI n) (nI 0) (nI 0) = _
      unfold dm_serve_63_b
      rw [if_pos (Int32.le_refl _), nI_1]
    · obtain rfl : s = 0 := by omega
      exact hm t (Nat.zero_le t) ht
  | succ k ih =>
    intro f w a hik hk hf h hm
    obtain ⟨f, rfl⟩ := pu_nn hf
    have e : dm_serve_63 K (f + 1) w (nI n) (nI i) (nI (k + 1)) = dm_serve_63_b K (dm_serve_63 K f) w (nI n) (nI i) (nI (k + 1)) := rfl
    rw [e]
    unfold dm_serve_63_b
    by_cases q : i = k + 1
    · rw [if_pos (nI_le (by omega) (by omega)), nI_1]
      refine ⟨w, a, rfl, h.1, h.2.1, h.2.2.1, h.2.2.2.1, h.2.2.2.2.1, fun s t hs hst ht => ?_⟩
      by_cases z1 : s < i
      · exact h.2.2.2.2.2 s t z1 hst ht
      · obtain rfl : s = k + 1 := by omega
        exact hm t (by omega) ht
    · have h1 := h.2.2.1 (k + 1) hk
      have h0 := h.2.2.1 k (by omega)
      have g1 := hg _ ((h.2.2.2.1 _).mp ⟨k + 1, hk, rfl⟩)
      have g0 := hg _ ((h.2.2.2.1 _).mp ⟨k, by omega, rfl⟩)
      have w4 : w.1 4 = y.1 4 := by rw [h.1]; exact e4
      have w5 : w.2 5 = y.2 5 := by rw [h.2.1 5 (by decide)]; exact e5
      have w6 : w.2 6 = y.2 6 := by rw [h.2.1 6 (by decide)]; exact e6
      obtain ⟨r1, b1⟩ := pm_rank hi (w := w) w4 w5 w6 g1.1 g1.2
      obtain ⟨r0, b0⟩ := pm_rank hi (w := w) w4 w5 w6 g0.1 g0.2
      rw [if_neg (nI_ge (by omega) (by omega))]
      simp only [nI_pred, pk_m1, pu_ix (show k + 1 < 16 by omega) (by decide), pu_cl (show k + 1 < 16 by omega), pu_ix (show k < 16 by omega) (by decide), pu_cl (show k < 16 by omega)]
      rw [h1, r1]
      simp only [ts_b]
      rw [h0, r0]
      simp only []
      by_cases c : rkN (y.1 4) C P (a k) ≤ rkN (y.1 4) C P (a (k + 1))
      · rw [if_pos (nI_le c (by omega))]
        refine ih f w a (by omega) (by omega) (by omega) h (fun t ht1 ht2 => ?_)
        by_cases y0 : t = k
        · rw [y0]; exact Nat.le_refl _
        · exact Nat.le_trans c (hm t (by omega) ht2)
      · rw [if_neg (nI_ge (by omega) (by omega)), h1, h0]
        have hs := so_sw h (by omega : i ≤ k) hk
        refine ih f _ (sw a k) (by omega) (by omega) (by omega) hs (fun t ht1 ht2 => ?_)
        rw [sw_0]
        by_cases y0 : t = k
        · rw [y0, sw_0]; exact Nat.le_refl _
        · by_cases y2 : t = k + 1
          · rw [y2, sw_1]; omega
          · rw [sw_n a y0 y2]
            exact hm t (by omega) ht2
theorem pm_sort_out {y z : ts_S} {L : Nat} {E N C P : Nat → Nat} (hi : iv y L E N C P) (e4 : z.1 4 = y.1 4) (e5 : z.2 5 = y.2 5) (e6 : z.2 6 = y.2 6) {g : List Nat} {n : Nat} (hn : n ≤ 16) (hg : ∀ x ∈ g, x < 16 ∧ lv y x) : ∀ (d i f : Nat) (w : ts_S) (a : Nat → Nat), i + d = n → d < f → so z g n (rkN (y.1 4) C P) i w a → ∃ w' a', dm_serve_54 f w (nI n) (nI i) = dm_serve_141 40 w' (nI n) 0 0 ∧ so z g n (rkN (y.1 4) C P) n w' a' := by
  intro d
  induction d with
  | zero =>
    intro i f w a hd hf h
    obtain ⟨f, rfl⟩ := pu_nn hf
    obtain rfl : i = n := by omega
    refine ⟨w, a, ?_, h⟩
    show dm_serve_54_b (dm_serve_54 f) w (nI i) (nI i) = _
    unfold dm_serve_54_b
    rw [if_pos (Int32.le_refl _)]
  | succ d ih =>
    intro i f w a hd hf h
    obtain ⟨f, rfl⟩ := pu_nn hf
    have hin : i < n := by omega
    have e : dm_serve_54 (f + 1) w (nI n) (nI i) = dm_serve_54_b (dm_serve_54 f) w (nI n) (nI i) := rfl
    rw [e]
    unfold dm_serve_54_b
    rw [if_neg (nI_ge hin (by omega))]
    have en : nI n - 1 = nI (n - 1) := by
      obtain ⟨m, rfl⟩ : ∃ m, n = m + 1 := ⟨n - 1, by omega⟩
      rw [nI_pred]
      rfl
    rw [en]
    obtain ⟨w', a', i1, i2⟩ := pm_sort_in hi e4 e5 e6 hn hg (dm_serve_54 f) hin (n - 1) 40 w a (by omega) (by omega) (by omega) h (fun t ht1 ht2 => by
      have : t = n - 1 := by omega
      rw [this]
      exact Nat.le_refl _)
    rw [i1]
    exact ih (i + 1) f w' a' (by omega) (by omega) i2
/-- the files brought back one after another, side by side -/
theorem sim_run {L : Nat} {E N C P : Nat → Nat} (l : List Nat) (h16 : l.length ≤ 16) (hm : ∀ x ∈ l, x < 16) (hd : l.Nodup) : ∀ (d i k : Nat) (u v : ts_S) (a : Int32), i + d = l.length → d < k → rel u v → iv u L E N C P → u.1 2 = nI l.length → ag (u.2 9) l → ag (v.2 9) l → (∀ (t : Nat) (h : t < l.length), i ≤ t → u.2 2 (l[t]'h) = 3) → ∃ r w z, dt_serve_29 k u a (nI i) = some (r, w) ∧ dm_serve_141 k v (nI l.length) a (nI i) = some (r, z) ∧ rel w z ∧ iv w L E N C P := by
  intro d
  induction d with
  | zero =>
    intro i k u v a hi hk hr hv h2 h9 h9' hs
    obtain ⟨k, rfl⟩ := pu_nn hk
    obtain rfl : i = l.length := by omega
    refine ⟨a, u, v, ?_, ?_, hr, hv⟩
    · show dt_serve_29_b (dt_serve_29 k) u a (nI l.length) = _
      unfold dt_serve_29_b
      rw [h2, if_pos (Int32.le_refl _)]
    · show dm_serve_141_b (dm_serve_141 k) v (nI l.length) a (nI l.length) = _
      unfold dm_serve_141_b
      rw [if_pos (Int32.le_refl _)]
  | succ d ih =>
    intro i k u v a hi hk hr hv h2 h9 h9' hs
    obtain ⟨k, rfl⟩ := pu_nn hk
    have hil : i < l.length := by omega
    have hi16 : i < 16 := by omega
    have hx16 : l[i] < 16 := hm _ (List.getElem_mem hil)
    obtain ⟨r, w, z, r1, b1, b2, b3, b4, b5, b6, b7, b8, -, -⟩ := sim_bring hr hv hx16 (hs i hil (Nat.le_refl i))
    have hs' : ∀ (t : Nat) (h : t < l.length), i + 1 ≤ t → w.2 2 (l[t]'h) = 3 := fun t h1 h2 => b5 _ (fun e => by
      have := (List.getElem_inj (h₀ := h1) (h₁ := hil) hd).mp e
      omega) (hs t h1 (by omega))
    have eT : dt_serve_29 (k + 1) u a (nI i) = dt_serve_29_b (dt_serve_29 k) u a (nI i) := rfl
    have eM : dm_serve_141 (k + 1) v (nI l.length) a (nI i) = dm_serve_141_b (dm_serve_141 k) v (nI l.length) a (nI i) := rfl
    rw [eT, eM]
    unfold dt_serve_29_b dm_serve_141_b
    rw [h2, if_neg (nI_ge hil (by omega)), if_neg (nI_ge hil (by omega)), pu_ix hi16 (by decide), pu_ix hi16 (by decide), pu_cl hi16, h9 i hil, h9' i hil, b1, b2]
    simp only [ts_b, nI_1]
    rcases r1 with rfl | rfl
    · rw [if_pos rfl, if_pos rfl]
      exact ih (i + 1) k w z a (by omega) (by omega) b3 b4 (by rw [b6]; exact h2) (by rw [b7]; exact h9) (by rw [b8]; exact h9') hs'
    · rw [if_neg pu_10, if_neg pu_10]
      exact ih (i + 1) k w z (a + 1) (by omega) (by omega) b3 b4 (by rw [b6]; exact h2) (by rw [b7]; exact h9) (by rw [b8]; exact h9') hs'
