/-! pure: the head's movement -/
def mvc (u : ts_S) (c : Int32) : Int32 := if u.1 4 = c then u.1 6 else u.1 6 + 20
def mvh (u : ts_S) (c : Int32) : Int32 := if u.1 4 = c then u.1 5 else 0
def mv (u : ts_S) (c p n d : Int32) : ts_S := ts_p 5 (p + n) (ts_p 6 (mvc u c + d + n) (ts_p 4 c u))
theorem mv_2 (u : ts_S) (c p n d : Int32) : (mv u c p n d).2 = u.2 := rfl
theorem mv_k (u : ts_S) (c p n d : Int32) {k : Nat} (h4 : k ≠ 4) (h5 : k ≠ 5) (h6 : k ≠ 6) : (mv u c p n d).1 k = u.1 k := by
  show (if k = 5 then _ else (if k = 6 then _ else (if k = 4 then _ else u.1 k))) = u.1 k
  rw [if_neg h5, if_neg h6, if_neg h4]
theorem mv_4 (u : ts_S) (c p n d : Int32) : (mv u c p n d).1 4 = c := rfl
theorem mv_5 (u : ts_S) (c p n d : Int32) : (mv u c p n d).1 5 = p + n := rfl
theorem mv_6 (u : ts_S) (c p n d : Int32) : (mv u c p n d).1 6 = mvc u c + d + n := rfl
theorem pu_mv {u w : ts_S} {c p n d : Int32} (h2 : w.2 = u.2) (h4 : w.1 4 = c) (h5 : w.1 5 = p + n) (h6 : w.1 6 = mvc u c + d + n) (hk : ∀ k, k ≠ 4 → k ≠ 5 → k ≠ 6 → w.1 k = u.1 k) : w = mv u c p n d := by
  refine ts_ext (fun k => ?_) (fun j => by rw [h2]; rfl)
  by_cases a : k = 4
  · rw [a, h4]; rfl
  · by_cases b : k = 5
    · rw [b, h5]; rfl
    · by_cases e : k = 6
      · rw [e, h6]; rfl
      · rw [hk k a b e, mv_k u c p n d a b e]
theorem pu_upk (f : Nat → Int32) (k : Nat) (v : Int32) {j : Nat} (h : j ≠ k) : va_up f k v j = f j := if_neg h
theorem pt_pass (u : ts_S) (c p n : Int32) : dp_pass u c p n = some (0, mv u c p n (if 0 ≤ mvh u c - p then mvh u c - p else 0 - (mvh u c - p))) := by
  unfold dp_pass dp_goTo
  by_cases h : u.1 4 = c
  · rw [if_pos h]
    simp only [ts_b]
    refine congrArg (fun z => some ((0 : Int32), z)) (pu_mv rfl h ?_ ?_ ?_)
    · rfl
    · show u.1 6 + _ + n = _
      unfold mvc mvh
      rw [if_pos h, if_pos h]
    · intro k h4 h5 h6
      simp only [ts_p, pu_upk _ _ _ h4, pu_upk _ _ _ h5, pu_upk _ _ _ h6]
  · rw [if_neg h]
    simp only [ts_b]
    refine congrArg (fun z => some ((0 : Int32), z)) (pu_mv rfl rfl ?_ ?_ ?_)
    · rfl
    · show u.1 6 + 20 + _ + n = _
      unfold mvc mvh
      rw [if_neg h, if_neg h]
      rfl
    · intro k h4 h5 h6
      simp only [ts_p, pu_upk _ _ _ h4, pu_upk _ _ _ h5, pu_upk _ _ _ h6]
theorem pm_move (u : ts_S) (c p n : Int32) : dm_move u c p n = some (0, mv u c p n (if p ≤ mvh u c then mvh u c - p else p - mvh u c)) := by
  unfold dm_move
  by_cases h : u.1 4 = c
  · rw [if_pos h]
    have e : mvh u c = u.1 5 := if_pos h
    rw [e]
    by_cases h2 : p ≤ u.1 5
    · rw [if_pos h2, if_pos h2]
      refine congrArg (fun z => some ((0 : Int32), z)) (pu_mv rfl h rfl ?_ ?_)
      · show u.1 6 + _ + n = _
        unfold mvc
        rw [if_pos h]
      · intro k h4 h5 h6
        simp only [ts_p, pu_upk _ _ _ h4, pu_upk _ _ _ h5, pu_upk _ _ _ h6]
    · rw [if_neg h2, if_neg h2]
      refine congrArg (fun z => some ((0 : Int32), z)) (pu_mv rfl h rfl ?_ ?_)
      · show u.1 6 + _ + n = _
        unfold mvc
        rw [if_pos h]
      · intro k h4 h5 h6
        simp only [ts_p, pu_upk _ _ _ h4, pu_upk _ _ _ h5, pu_upk _ _ _ h6]
  · rw [if_neg h]
    have e : mvh u c = 0 := if_neg h
    have e2 : (ts_p 5 0 (ts_p 4 c (ts_p 6 ((u.1 6) + 20) u))).1 5 = 0 := rfl
    have e3 : (ts_p 5 0 (ts_p 4 c (ts_p 6 ((u.1 6) + 20) u))).1 6 = u.1 6 + 20 := rfl
    rw [e, e2, e3]
    by_cases h2 : p ≤ 0
    · rw [if_pos h2, if_pos h2]
      refine congrArg (fun z => some ((0 : Int32), z)) (pu_mv rfl rfl rfl ?_ ?_)
      · show u.1 6 + 20 + _ + n = _
        unfold mvc
        rw [if_neg h]
      · intro k h4 h5 h6
        simp only [ts_p, pu_upk _ _ _ h4, pu_upk _ _ _ h5, pu_upk _ _ _ h6]
    · rw [if_neg h2, if_neg h2]
      refine congrArg (fun z => some ((0 : Int32), z)) (pu_mv rfl rfl rfl ?_ ?_)
      · show u.1 6 + 20 + _ + n = _
        unfold mvc
        rw [if_neg h]
      · intro k h4 h5 h6
        simp only [ts_p, pu_upk _ _ _ h4, pu_upk _ _ _ h5, pu_upk _ _ _ h6]
theorem pu_dist {a b : Nat} (ha : a < 1000) (hb : b < 1000) : (if (0 : Int32) ≤ nI a - nI b then nI a - nI b else 0 - (nI a - nI b)) = if nI b ≤ nI a then nI a - nI b else nI b - nI a := by
  by_cases h : b ≤ a
  · have h1 : nI b ≤ nI a := nI_le h (by omega)
    have h2 : (0 : Int32) ≤ nI a - nI b := by
      rw [pk_sub h]
      exact nI_pos' (by omega)
    rw [if_pos h1, if_pos h2]
  · have h1 : ¬ nI b ≤ nI a := nI_ge (by omega) (by omega)
    have h2 : ¬ (0 : Int32) ≤ nI a - nI b := Int32.not_le.mpr (pk_sneg (by omega) (by omega))
    rw [if_neg h1, if_neg h2]
    apply Int32.toInt_inj.mp
    have e1 : (nI a - nI b).toInt = (a : Int) - b := pk_sub_toInt (by omega) (by omega)
    have e2 : (nI b - nI a).toInt = (b : Int) - a := pk_sub_toInt (by omega) (by omega)
    rw [Int32.toInt_sub, e1, e2]
    show ((0 : Int) - ((a : Int) - b)).bmod (2 ^ 32) = (b : Int) - a
    rw [Int.bmod_eq_of_le] <;> omega
/-! pure: the two states side by side -/
def rel (u v : ts_S) : Prop := (∀ k, k ≠ 2 → k ≠ 5 → u.1 k = v.1 k) ∧ (¬ u.1 4 = -1 → u.1 5 = v.1 5) ∧ (u.1 4 = -1 → u.1 5 = 0) ∧ (∀ j, j ≠ 4 → j ≠ 9 → j ≠ 11 → j < 20 → u.2 j = v.2 j) ∧ ∀ f i, f < 16 → i < 4 → u.2 (20 + f) i = v.2 4 (f * 4 + i)
theorem rel_a {u v : ts_S} (h : rel u v) {j : Nat} (i : Nat) (x : Int32) (h4 : j ≠ 4) (h20 : j < 20) : rel (ts_a j i x u) (ts_a j i x v) := by
  obtain ⟨a, b, c, d, e⟩ := h
  refine ⟨a, b, c, fun t t4 t9 t11 t20 => ?_, fun f g hf hg => ?_⟩
  · show (if t = j then upd (u.2 j) i x else u.2 t) = (if t = j then upd (v.2 j) i x else v.2 t)
    by_cases q : t = j
    · rw [if_pos q, if_pos q]
      subst q
      rw [d t t4 t9 t11 t20]
    · rw [if_neg q, if_neg q, d t t4 t9 t11 t20]
  · show (if 20 + f = j then upd (u.2 j) i x else u.2 (20 + f)) g = (if 4 = j then upd (v.2 j) i x else v.2 4) (f * 4 + g)
    rw [if_neg (by omega), if_neg (by omega)]
    exact e f g hf hg
/-- a row of the class alone, or of the reference alone, that the other has not -/
theorem rel_aL {u v : ts_S} (h : rel u v) {j : Nat} (i : Nat) (x : Int32) (hj : j = 9 ∨ j = 11) : rel (ts_a j i x u) v := by
  obtain ⟨a, b, c, d, e⟩ := h
  refine ⟨a, b, c, fun t t4 t9 t11 t20 => ?_, fun f g hf hg => ?_⟩
  · show (if t = j then upd (u.2 j) i x else u.2 t) = v.2 t
    rw [if_neg (by omega)]
    exact d t t4 t9 t11 t20
  · show (if 20 + f = j then upd (u.2 j) i x else u.2 (20 + f)) g = v.2 4 (f * 4 + g)
    rw [if_neg (by omega)]
    exact e f g hf hg
theorem rel_aR {u v : ts_S} (h : rel u v) {j : Nat} (i : Nat) (x : Int32) (hj : j = 9 ∨ j = 11) : rel u (ts_a j i x v) := by
  obtain ⟨a, b, c, d, e⟩ := h
  refine ⟨a, b, c, fun t t4 t9 t11 t20 => ?_, fun f g hf hg => ?_⟩
  · show u.2 t = (if t = j then upd (v.2 j) i x else v.2 t)
    rw [if_neg (by omega)]
    exact d t t4 t9 t11 t20
  · show u.2 (20 + f) g = (if 4 = j then upd (v.2 j) i x else v.2 4) (f * 4 + g)
    rw [if_neg (by omega)]
    exact e f g hf hg
theorem rel_pL {u v : ts_S} (h : rel u v) (x : Int32) : rel (ts_p 2 x u) v := by
  obtain ⟨a, b, c, d, e⟩ := h
  refine ⟨fun k k2 k5 => ?_, b, c, d, e⟩
  show (if k = 2 then x else u.1 k) = v.1 k
  rw [if_neg k2]
  exact a k k2 k5
theorem rel_cL {u v : ts_S} (h : rel u v) : rel (ts_c u) v := by
  obtain ⟨a, b, c, d, e⟩ := h
  refine ⟨a, b, c, fun t t4 t9 t11 t20 => ?_, fun f g hf hg => ?_⟩
  · show (if t = 11 then _ else u.2 t) = v.2 t
    rw [if_neg t11]
    exact d t t4 t9 t11 t20
  · show (if 20 + f = 11 then _ else u.2 (20 + f)) g = v.2 4 (f * 4 + g)
    rw [if_neg (by omega)]
    exact e f g hf hg
theorem rel_p {u v : ts_S} (h : rel u v) {k : Nat} (x : Int32) (h4 : k ≠ 4) (h5 : k ≠ 5) : rel (ts_p k x u) (ts_p k x v) := by
  obtain ⟨a, b, c, d, e⟩ := h
  have e4 : (ts_p k x u).1 4 = u.1 4 := if_neg (fun q => h4 q.symm)
  have e5 : (ts_p k x u).1 5 = u.1 5 := if_neg (fun q => h5 q.symm)
  have e5' : (ts_p k x v).1 5 = v.1 5 := if_neg (fun q => h5 q.symm)
  refine ⟨fun t t2 t5 => ?_, fun q => ?_, fun q => ?_, d, e⟩
  · show (if t = k then x else u.1 t) = (if t = k then x else v.1 t)
    by_cases q : t = k
    · rw [if_pos q, if_pos q]
    · rw [if_neg q, if_neg q, a t t2 t5]
  · rw [e5, e5']
    exact b (by rw [← e4]; exact q)
  · rw [e5]
    exact c (by rw [← e4]; exact q)
theorem rel_s2 {u v : ts_S} (h : rel u v) (st : Nat → Int32) : rel (s2 st u) (s2 st v) := by
  obtain ⟨a, b, c, d, e⟩ := h
  refine ⟨a, b, c, fun t t4 t9 t11 t20 => ?_, fun f g hf hg => ?_⟩
  · show (if t = 2 then st else u.2 t) = (if t = 2 then st else v.2 t)
    by_cases q : t = 2
    · rw [if_pos q, if_pos q]
    · rw [if_neg q, if_neg q, d t t4 t9 t11 t20]
  · show (if 20 + f = 2 then st else u.2 (20 + f)) g = (if 4 = 2 then st else v.2 4) (f * 4 + g)
    rw [if_neg (by omega), if_neg (by omega)]
    exact e f g hf hg
theorem rel_cell {u v : ts_S} (h : rel u v) {f i : Nat} (x : Int32) (hf : f < 16) (hi : i < 4) : rel (ts_a (20 + f) i x u) (ts_a 4 (f * 4 + i) x v) := by
  obtain ⟨a, b, c, d, e⟩ := h
  refine ⟨a, b, c, fun t t4 t9 t11 t20 => ?_, fun g j hg hj => ?_⟩
  · show (if t = 20 + f then _ else u.2 t) = (if t = 4 then _ else v.2 t)
    rw [if_neg (by omega), if_neg t4]
    exact d t t4 t9 t11 t20
  · show (if 20 + g = 20 + f then upd (u.2 (20 + f)) i x else u.2 (20 + g)) j = upd (v.2 4) (f * 4 + i) x (g * 4 + j)
    by_cases q : g = f
    · subst q
      rw [if_pos rfl]
      show (if j = i then x else u.2 (20 + g) j) = (if g * 4 + j = g * 4 + i then x else v.2 4 (g * 4 + j))
      by_cases z : j = i
      · rw [if_pos z, if_pos (by omega)]
      · rw [if_neg z, if_neg (by omega)]
        exact e g j hg hj
    · rw [if_neg (by omega)]
      show u.2 (20 + g) j = (if g * 4 + j = f * 4 + i then x else v.2 4 (g * 4 + j))
      rw [if_neg (by omega)]
      exact e g j hg hj
theorem rel_mv {u v : ts_S} (h : rel u v) {c p n d : Int32} (hc : ¬ c = -1) : rel (mv u c p n d) (mv v c p n d) := by
  have e6 : mvc u c = mvc v c := by
    unfold mvc
    rw [h.1 4 (by decide) (by decide), h.1 6 (by decide) (by decide)]
  obtain ⟨a, b, c', d', e⟩ := h
  refine ⟨fun k k2 k5 => ?_, fun _ => rfl, fun q => absurd q hc, d', e⟩
  by_cases k4 : k = 4
  · rw [k4]; rfl
  · by_cases k6 : k = 6
    · rw [k6, mv_6, mv_6, e6]
    · rw [mv_k u c p n d k4 k5 k6, mv_k v c p n d k4 k5 k6, a k k2 k5]
theorem rel_mvh {u v : ts_S} (h : rel u v) (c : Int32) (hc : ¬ c = -1) : mvh u c = mvh v c := by
  unfold mvh
  have e := h.1 4 (by decide) (by decide)
  by_cases q : u.1 4 = c
  · rw [if_pos q, if_pos (by rw [← e]; exact q), h.2.1 (by rw [q]; exact hc)]
  · rw [if_neg q, if_neg (by rw [← e]; exact q)]
/-! pure: what holds of the class's state -/
def lv (u : ts_S) (f : Nat) : Prop := u.2 2 f = 2 ∨ u.2 2 f = 3
def iv (u : ts_S) (L : Nat) (E N C P : Nat → Nat) : Prop :=
  (L ≤ 20 ∧ u.1 3 = nI L) ∧ (u.1 4 = -1 ∨ ∃ c, c < 4 ∧ u.1 4 = nI c) ∧ (∃ h, h ≤ 24 ∧ u.1 5 = nI h) ∧ (∀ c, c < 4 → E c ≤ L ∧ u.2 10 c = nI (E c)) ∧ (∀ f, f < 16 → N f ≤ 4 ∧ u.2 3 f = nI (N f) ∧ (¬ u.2 2 f = 0 → 1 ≤ N f)) ∧ (∀ f, f < 16 → lv u f → C f < 4 ∧ u.2 5 f = nI (C f) ∧ u.2 6 f = nI (P f) ∧ P f + N f ≤ E (C f)) ∧ (∀ f g, f < 16 → g < 16 → lv u f → lv u g → f ≠ g → C f = C g → P f ≠ P g) ∧ wt (u.2 7) 16 ≤ 6
theorem iv_sub {u w : ts_S} {L : Nat} {E N C P : Nat → Nat} (h : iv u L E N C P) (h3 : w.1 3 = u.1 3) (h4 : w.1 4 = -1 ∨ ∃ c, c < 4 ∧ w.1 4 = nI c) (h5 : ∃ h, h ≤ 24 ∧ w.1 5 = nI h) (a10 : w.2 10 = u.2 10) (a3 : w.2 3 = u.2 3) (a5 : w.2 5 = u.2 5) (a6 : w.2 6 = u.2 6) (hl : ∀ f, f < 16 → lv w f → lv u f) (hz : ∀ f, f < 16 → ¬ w.2 2 f = 0 → ¬ u.2 2 f = 0) (hw : wt (w.2 7) 16 ≤ 6) : iv w L E N C P := by
  obtain ⟨i1, i2, i3, i4, i5, i6, i7, i8⟩ := h
  refine ⟨⟨i1.1, by rw [h3]; exact i1.2⟩, h4, h5, fun c hc => ?_, fun f hf => ?_, fun f hf hv => ?_, fun f g hf hg v1 v2 => i7 f g hf hg (hl f hf v1) (hl g hg v2), hw⟩
  · rw [a10]; exact i4 c hc
  · rw [a3]; exact ⟨(i5 f hf).1, (i5 f hf).2.1, fun q => (i5 f hf).2.2 (hz f hf q)⟩
  · rw [a5, a6]; exact i6 f hf (hl f hf hv)
