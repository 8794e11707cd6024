/-! pure: empty side by side -/
theorem fs_c {A B : Nat → Prop} {r : Int32} (h : ∀ c, c < 4 → (A c ↔ B c)) (hr : fs A r) : fs B r := by
  rcases hr with ⟨e, h1⟩ | ⟨c, c1, e, c2, c3⟩
  · exact Or.inl ⟨e, fun c hc q => h1 c hc ((h c hc).mpr q)⟩
  · exact Or.inr ⟨c, c1, e, (h c c1).mp c2, fun d hd q => c3 d hd ((h d (by omega)).mpr q)⟩
/-- all of the files find a place beside c, one after another -/
def trp (L c : Nat) (N : Nat → Nat) : List Nat → (Nat → Nat) → Prop
  | [], _ => True
  | x :: t, T => ∃ k, k < 4 ∧ k ≠ c ∧ T k + N x ≤ L ∧ (∀ j, j < k → ¬ (j ≠ c ∧ T j + N x ≤ L)) ∧ trp L c N t (va_up T k (T k + N x))
/-- the same state but for what is listed and tried -/
def ey (u w : ts_S) : Prop := (∀ k, k ≠ 2 → w.1 k = u.1 k) ∧ ∀ j, j ≠ 9 → j ≠ 11 → w.2 j = u.2 j
theorem ey_rf (u : ts_S) : ey u u := ⟨fun _ _ => rfl, fun _ _ _ => rfl⟩
theorem ey_tr {u v w : ts_S} (h1 : ey u v) (h2 : ey v w) : ey u w := ⟨fun k hk => by rw [h2.1 k hk, h1.1 k hk], fun j a b => by rw [h2.2 j a b, h1.2 j a b]⟩
theorem ey_ex {u w : ts_S} (h : ex u w) : ey u w := ⟨h.1, fun j a _ => h.2 j a⟩
theorem ey_a (u : ts_S) (i : Nat) (x : Int32) : ey u (ts_a 11 i x u) := ⟨fun _ _ => rfl, fun j _ hj => by show (if j = 11 then _ else u.2 j) = u.2 j; rw [if_neg hj]⟩
theorem ey_c (u : ts_S) : ey u (ts_c u) := ⟨fun _ _ => rfl, fun j _ hj => by show (if j = 11 then _ else u.2 j) = u.2 j; rw [if_neg hj]⟩
theorem rel_ey {u v w z : ts_S} (h : rel u v) (h1 : ey u w) (h2 : ey v z) : rel w z := by
  obtain ⟨a, b, c, d, e⟩ := h
  refine ⟨fun k k2 k5 => by rw [h1.1 k k2, h2.1 k k2]; exact a k k2 k5, fun q => ?_, fun q => ?_, fun j j4 j9 j11 j20 => by rw [h1.2 j j9 j11, h2.2 j j9 j11]; exact d j j4 j9 j11 j20, fun f i hf hi => by rw [h1.2 (20 + f) (by omega) (by omega), h2.2 4 (by decide) (by decide)]; exact e f i hf hi⟩
  · rw [h1.1 5 (by decide), h2.1 5 (by decide)]
    exact b (by rw [← h1.1 4 (by decide)]; exact q)
  · rw [h1.1 5 (by decide)]
    exact c (by rw [← h1.1 4 (by decide)]; exact q)
theorem iv_ey {u w : ts_S} {L : Nat} {E N C P : Nat → Nat} (h : iv u L E N C P) (h1 : ey u w) : iv w L E N C P :=
  iv_sub h (h1.1 3 (by decide)) (by rw [h1.1 4 (by decide)]; exact h.2.1) (by rw [h1.1 5 (by decide)]; exact h.2.2.1) (h1.2 10 (by decide) (by decide)) (h1.2 3 (by decide) (by decide)) (h1.2 5 (by decide) (by decide)) (h1.2 6 (by decide) (by decide)) (fun f _ q => by unfold lv at q ⊢; rw [h1.2 2 (by decide) (by decide)] at q; exact q) (fun f _ q => by rw [h1.2 2 (by decide) (by decide)] at q; exact q) (by rw [h1.2 7 (by decide) (by decide)]; exact h.2.2.2.2.2.2.2)
theorem fit_iff {L t n : Nat} (hL : L ≤ 20) (ht : t ≤ 20) (hn : n ≤ 4) : (¬ nI L < nI t + nI n) ↔ t + n ≤ L := by
  rw [nI_add]
  constructor
  · intro q
    exact Nat.not_lt.mp (fun z => q (nI_lt z (by omega)))
  · intro q
    exact nI_nlt q (by omega)
/-- the class's trial -/
theorem pt_try_l {u : ts_S} {L : Nat} {E N C P : Nat → Nat} (hi : iv u L E N C P) {c : Nat} (hc : c < 4) (l : List Nat) (h16 : l.length ≤ 16) (hm : ∀ x ∈ l, x < 16) : ∀ (m : List Nat) (i k : Nat) (w : ts_S) (T : Nat → Nat), l.drop i = m → i ≤ l.length → m.length < k → ey u w → w.1 2 = nI l.length → ag (w.2 9) l → (∀ j, j < 4 → T j ≤ L ∧ w.2 11 j = nI (T j)) → ∃ r w', dt_listedFitBeside_9 k w (nI c) (nI i) = some (r, w') ∧ ((r = 1 ∧ trp L c N m T) ∨ (r = 0 ∧ ¬ trp L c N m T)) ∧ ey u w' ∧ w'.1 2 = nI l.length ∧ ag (w'.2 9) l := by
  intro m
  induction m with
  | nil =>
    intro i k w T hd hle hk hy h2 h9 hT
    obtain ⟨k, rfl⟩ := pu_nn hk
    have hil : l.length ≤ i := List.drop_eq_nil_iff.mp hd
    refine ⟨1, w, ?_, Or.inl ⟨rfl, trivial⟩, hy, h2, h9⟩
    show dt_listedFitBeside_9_b (dt_listedFitBeside_9 k) w (nI c) (nI i) = _
    unfold dt_listedFitBeside_9_b
    rw [h2, if_pos (nI_le hil (by omega))]
  | cons x t ih =>
    intro i k w T hd hle hk hy h2 h9 hT
    obtain ⟨k, rfl⟩ := pu_nn hk
    have hil : i < l.length := by
      rcases Nat.lt_or_ge i l.length with q | q
      · exact q
      · rw [List.drop_eq_nil_of_le q] at hd
        cases hd
    have hi16 : i < 16 := by omega
    have hx : l[i] = x ∧ l.drop (i + 1) = t := by
      rw [List.drop_eq_getElem_cons hil] at hd
      exact ⟨(List.cons.inj hd).1, (List.cons.inj hd).2⟩
    have hx16 : x < 16 := by rw [← hx.1]; exact hm _ (List.getElem_mem hil)
    have hN := hi.2.2.2.2.1 x hx16
    have e : dt_listedFitBeside_9 (k + 1) w (nI c) (nI i) = dt_listedFitBeside_9_b (dt_listedFitBeside_9 k) w (nI c) (nI i) := rfl
    have w9 : w.2 9 i = nI x := by rw [h9 i hil, hx.1]
    have w3 : w.2 3 x = nI (N x) := by rw [hy.2 3 (by decide) (by decide)]; exact hN.2.1
    obtain ⟨r, r1, r2⟩ := pt_ff11 w (nI (N x)) (nI c)
    have r3 : fs (fun j => j ≠ c ∧ T j + N x ≤ L) r := fs_c (fun j hj => by
      rw [hy.1 3 (by decide), hi.1.2, (hT j hj).2, fit_iff hi.1.1 (by have := (hT j hj).1; have := hi.1.1; omega) hN.1]
      constructor
      · rintro ⟨a, b⟩
        exact ⟨fun q => a (by rw [q]), b⟩
      · rintro ⟨a, b⟩
        exact ⟨fun q => a ((nI_eq (by omega) (by omega)).mp q), b⟩) r2
    rw [e]
    unfold dt_listedFitBeside_9_b
    rw [h2, if_neg (nI_ge hil (by omega)), pu_ix hi16 (by decide), pu_cl hi16, w9, pu_ix hx16 (by decide), pu_cl hx16, w3]
    unfold dp_tryBeside
    rw [r1]
    simp only [ts_b]
    rcases r3 with ⟨rfl, n1⟩ | ⟨j, j1, rfl, j2, j3⟩
    · rw [if_pos rfl]
      simp only []
      rw [if_pos trivial]
      refine ⟨0, w, rfl, Or.inr ⟨rfl, ?_⟩, hy, h2, h9⟩
      rintro ⟨q, q1, q2, q3, -⟩
      exact n1 q q1 ⟨q2, q3⟩
    · rw [if_neg (pu_m1 (by omega)), pu_ix j1 (by decide), pu_ix j1 (by decide), pu_cl (show j < 16 by omega)]
      simp only []
      rw [if_neg (by decide), nI_1, (hT j j1).2, nI_add]
      obtain ⟨r', w', i1, i2, i3, i4, i5⟩ := ih (i + 1) k (ts_a 11 j (nI (T j + N x)) w) (va_up T j (T j + N x)) hx.2 (by omega) (by simp at hk; omega) (ey_tr hy (ey_a w j _)) h2 h9 (fun q hq => by
        show va_up T j (T j + N x) q ≤ L ∧ upd (w.2 11) j (nI (T j + N x)) q = nI (va_up T j (T j + N x) q)
        by_cases z : q = j
        · have e1 : va_up T j (T j + N x) q = T j + N x := if_pos z
          have e2 : upd (w.2 11) j (nI (T j + N x)) q = nI (T j + N x) := if_pos z
          rw [e1, e2]
          exact ⟨j2.2, rfl⟩
        · have e1 : va_up T j (T j + N x) q = T q := if_neg z
          have e2 : upd (w.2 11) j (nI (T j + N x)) q = w.2 11 q := if_neg z
          rw [e1, e2]
          exact hT q hq)
      refine ⟨r', w', i1, ?_, i3, i4, i5⟩
      rcases i2 with ⟨a, b⟩ | ⟨a, b⟩
      · exact Or.inl ⟨a, j, j1, j2.1, j2.2, j3, b⟩
      · refine Or.inr ⟨a, ?_⟩
        rintro ⟨q, q1, q2, q3, q4, q5⟩
        have : q = j := by
          rcases Nat.lt_trichotomy q j with y | y | y
          · exact absurd ⟨q2, q3⟩ (j3 q y)
          · exact y
          · exact absurd j2 (q4 j y)
        rw [this] at q5
        exact b q5
def hd0 : List Nat → Int32
  | [] => -1
  | x :: _ => nI x
/-- next: the first of the rising list of what is there from p on -/
theorem pm_nxt {w : ts_S} {c : Int32} {p : Nat} {P : Nat → Nat} (m : List Nat) (hp : p < 1000) (hm : ∀ x, x < 16 → ((lc w c x ∧ ¬ w.2 6 x < nI p) ↔ x ∈ m)) (hx : ∀ x ∈ m, x < 16 ∧ w.2 6 x = nI (P x) ∧ P x < 1000) (hs : m.Pairwise (fun x y => P x < P y)) : dm_next w c (nI p) = some (hd0 m, w) := by
  rcases pm_next w c (nI p) with ⟨t1, t2⟩ | ⟨g, g1, t1, g2, g3, g4⟩
  · rw [t1]
    cases m with
    | nil => rfl
    | cons x t =>
      have h1 := hx x List.mem_cons_self
      exact absurd ((hm x h1.1).mpr List.mem_cons_self) (t2 x h1.1)
  · rw [t1]
    have gm := (hm g g1).mp ⟨g2, g3⟩
    cases m with
    | nil => cases gm
    | cons x t =>
      have h1 := hx x List.mem_cons_self
      rcases List.mem_cons.mp gm with q | q
      · rw [q]; rfl
      · have h2 := (List.pairwise_cons.mp hs).1 g q
        have h3 := (hm x h1.1).mpr List.mem_cons_self
        have h4 := g4 x h1.1 h3.1 h3.2
        have h5 := hx g gm
        rw [h5.2.1, h1.2.1] at h4
        have := (nI_leI (by omega) (by omega)).mp h4
        omega
/-- the reference's search in its trial -/
theorem pm_tbest_l (w : ts_S) {f c : Nat} (hf : f < 16) (K : ts_S → Int32 → Int32 → Int32 → Option (Int32 × ts_S)) (y : Int32) : ∀ (j k : Nat) (b : Int32), j ≤ 4 → j < k → ((b = -1 ∧ ∀ t, j ≤ t → t < 4 → ¬ (¬ nI t = nI c ∧ ¬ w.1 3 < w.2 11 t + w.2 3 f)) ∨ ∃ q, j ≤ q ∧ q < 4 ∧ b = nI q ∧ (¬ nI q = nI c ∧ ¬ w.1 3 < w.2 11 q + w.2 3 f) ∧ ∀ t, j ≤ t → t < q → ¬ (¬ nI t = nI c ∧ ¬ w.1 3 < w.2 11 t + w.2 3 f)) →
    ∃ b' K', dm_canEmpty_50 K k w (nI c) (nI f) y b (nI j + (-1)) = dm_canEmpty_50_b K K' w (nI c) (nI f) y b' (-1) ∧ fs (fun t => ¬ nI t = nI c ∧ ¬ w.1 3 < w.2 11 t + w.2 3 f) b' := by
  intro j
  induction j with
  | zero =>
    intro k b hj hk hb
    obtain ⟨k, rfl⟩ := pu_nn hk
    refine ⟨b, dm_canEmpty_50 K k, rfl, ?_⟩
    rcases hb with ⟨b1, b2⟩ | ⟨q, c1, c2, c3, c4, c5⟩
    · exact Or.inl ⟨b1, fun t ht => b2 t (Nat.zero_le t) ht⟩
    · exact Or.inr ⟨q, c2, c3, c4, fun t ht => c5 t (Nat.zero_le t) ht⟩
  | succ j ih =>
    intro k b hj hk hb
    obtain ⟨k, rfl⟩ := pu_nn hk
    have h : j < 4 := by omega
    rw [pk_m1]
    have e : dm_canEmpty_50 K (k + 1) w (nI c) (nI f) y b (nI j) = dm_canEmpty_50_b K (dm_canEmpty_50 K k) w (nI c) (nI f) y b (nI j) := rfl
    have skip : ¬ (¬ nI j = nI c ∧ ¬ w.1 3 < w.2 11 j + w.2 3 f) → ((b = -1 ∧ ∀ t, j ≤ t → t < 4 → ¬ (¬ nI t = nI c ∧ ¬ w.1 3 < w.2 11 t + w.2 3 f)) ∨ ∃ q, j ≤ q ∧ q < 4 ∧ b = nI q ∧ (¬ nI q = nI c ∧ ¬ w.1 3 < w.2 11 q + w.2 3 f) ∧ ∀ t, j ≤ t → t < q → ¬ (¬ nI t = nI c ∧ ¬ w.1 3 < w.2 11 t + w.2 3 f)) := by
      intro hs
      rcases hb with ⟨b1, b2⟩ | ⟨q, c1, c2, c3, c4, c5⟩
      · refine Or.inl ⟨b1, fun t h1 h2 => ?_⟩
        rcases Nat.lt_or_ge j t with z | z
        · exact b2 t z h2
        · obtain rfl : t = j := by omega
          exact hs
      · refine Or.inr ⟨q, by omega, c2, c3, c4, fun t h1 h2 => ?_⟩
        rcases Nat.lt_or_ge j t with z | z
        · exact c5 t z h2
        · obtain rfl : t = j := by omega
          exact hs
    rw [e]
    have body : dm_canEmpty_50_b K (dm_canEmpty_50 K k) w (nI c) (nI f) y b (nI j) = (if nI j = nI c then dm_canEmpty_50 K k w (nI c) (nI f) y b (nI j + (-1)) else if w.1 3 < w.2 11 j + w.2 3 f then dm_canEmpty_50 K k w (nI c) (nI f) y b (nI j + (-1)) else dm_canEmpty_50 K k w (nI c) (nI f) y (nI j) (nI j + (-1))) := by
      unfold dm_canEmpty_50_b
      rw [if_neg (nI_pos (by omega))]
      simp only [pu_ix hf (by decide), pu_cl hf, pu_ix h (by decide), pu_cl (show j < 16 by omega)]
    rw [body]
    by_cases h1 : nI j = nI c
    · rw [if_pos h1]
      exact ih k b (by omega) (by omega) (skip (fun q => q.1 h1))
    · rw [if_neg h1]
      by_cases h3 : w.1 3 < w.2 11 j + w.2 3 f
      · rw [if_pos h3]
        exact ih k b (by omega) (by omega) (skip (fun q => q.2 h3))
      · rw [if_neg h3]
        exact ih k (nI j) (by omega) (by omega) (Or.inr ⟨j, Nat.le_refl j, h, rfl, ⟨h1, h3⟩, fun t h1 h2 => absurd h1 (by omega)⟩)
