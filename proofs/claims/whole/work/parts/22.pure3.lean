/-! pure: making room, tidying, moving the head -/
theorem ts_ext {a b : ts_S} (h1 : ∀ k, a.1 k = b.1 k) (h2 : ∀ j, a.2 j = b.2 j) : a = b := Prod.ext (funext h1) (funext h2)
def s2 (st : Nat → Int32) (u : ts_S) : ts_S := (u.1, va_up u.2 2 st)
theorem s2_self (u : ts_S) : s2 (u.2 2) u = u := by
  refine ts_ext (fun k => rfl) (fun j => ?_)
  show (if j = 2 then u.2 2 else u.2 j) = u.2 j
  by_cases h : j = 2
  · rw [if_pos h, h]
  · rw [if_neg h]
theorem s2_s2 (a b : Nat → Int32) (u : ts_S) : s2 a (s2 b u) = s2 a u := by
  refine ts_ext (fun k => rfl) (fun j => ?_)
  show (if j = 2 then a else (if j = 2 then b else u.2 j)) = (if j = 2 then a else u.2 j)
  by_cases h : j = 2
  · rw [if_pos h, if_pos h]
  · rw [if_neg h, if_neg h, if_neg h]
theorem s2_a (b : Nat → Int32) (i : Nat) (x : Int32) (u : ts_S) : ts_a 2 i x (s2 b u) = s2 (upd b i x) u := s2_s2 _ b u
theorem a_s2 (i : Nat) (x : Int32) (u : ts_S) : ts_a 2 i x u = s2 (upd (u.2 2) i x) u := rfl
theorem pt_stub_n {u : ts_S} (h : od (u.2 2) (u.2 8) 2 16 = -1) : dt_stubOldestDouble u = some (0, u) := by
  unfold dt_stubOldestDouble
  rw [pt_old]
  simp only [ts_b]
  rw [if_pos h]
theorem pt_stub_p {u : ts_S} (h : ¬ od (u.2 2) (u.2 8) 2 16 = -1) : dt_stubOldestDouble u = some (1, s2 (upd (u.2 2) (od (u.2 2) (u.2 8) 2 16).toNatClampNeg 3) u) := by
  unfold dt_stubOldestDouble
  rw [pt_old]
  simp only [ts_b]
  rw [if_neg h]
  rcases od_in (u.2 2) (u.2 8) 2 16 with q | ⟨f, hf, q, -⟩
  · exact absurd q h
  · rw [q]
    rw [pu_ix hf (by decide), a_s2]
theorem pt_room (u : ts_S) (n : Int32) : dt_hasRoom u n = some (if u.1 0 - tk (u.2 2) (u.2 3) 16 < n then 0 else 1, u) := by
  unfold dt_hasRoom
  rw [pt_taken]
  simp only [ts_b]
  by_cases h : u.1 0 - tk (u.2 2) (u.2 3) 16 < n
  · rw [if_pos h, if_pos h]
  · rw [if_neg h, if_neg h]
theorem pu_z0 {α : Type} (t : Option α) : ts_z 0 t = t := if_pos (Or.inl rfl)
theorem pu_z1 {α : Type} (t : Option α) : ts_z 1 t = t := if_pos (Or.inr rfl)
/-- making room of n units in at most d turns: the answer and the new states -/
def mr (rm n : Int32) (le us : Nat → Int32) : Nat → (Nat → Int32) → Int32 × (Nat → Int32)
  | 0, st => (if rm - tk st le 16 < n then 0 else 1, st)
  | d + 1, st => if rm - tk st le 16 < n then (if od st us 2 16 = -1 then (0, st) else mr rm n le us d (upd st (od st us 2 16).toNatClampNeg 3)) else (1, st)
theorem mr_s (rm n : Int32) (le us : Nat → Int32) (d : Nat) (st : Nat → Int32) : mr rm n le us (d + 1) st = if rm - tk st le 16 < n then (if od st us 2 16 = -1 then (0, st) else mr rm n le us d (upd st (od st us 2 16).toNatClampNeg 3)) else (1, st) := rfl
theorem pt_mr_l (u : ts_S) (n : Int32) : ∀ (d j k : Nat) (st : Nat → Int32), j + d = 16 → d < k → dt_makeRoom_2 k (s2 st u) n (nI j) = some ((mr (u.1 0) n (u.2 3) (u.2 8) d st).1, s2 (mr (u.1 0) n (u.2 3) (u.2 8) d st).2 u) := by
  intro d
  induction d with
  | zero =>
    intro j k st hj hk
    obtain ⟨k, rfl⟩ := pu_nn hk
    obtain rfl : j = 16 := by omega
    show dt_makeRoom_2_b (dt_makeRoom_2 k) (s2 st u) n (nI 16) = _
    unfold dt_makeRoom_2_b
    rw [if_pos (by decide), pt_room]
    simp only [ts_b]
    show ts_z (if u.1 0 - tk st (u.2 3) 16 < n then 0 else 1) (some (if u.1 0 - tk st (u.2 3) 16 < n then 0 else 1, s2 st u)) = some (if u.1 0 - tk st (u.2 3) 16 < n then 0 else 1, s2 st u)
    by_cases h : u.1 0 - tk st (u.2 3) 16 < n
    · rw [if_pos h, pu_z0]
    · rw [if_neg h, pu_z1]
  | succ d ih =>
    intro j k st hj hk
    obtain ⟨k, rfl⟩ := pu_nn hk
    have h : j < 16 := by omega
    show dt_makeRoom_2_b (dt_makeRoom_2 k) (s2 st u) n (nI j) = _
    unfold dt_makeRoom_2_b
    rw [if_neg (pu_16 h), pt_room]
    simp only [ts_b]
    rw [mr_s]
    show (if (if u.1 0 - tk st (u.2 3) 16 < n then (0 : Int32) else 1) = 0 then _ else _) = _
    by_cases h1 : u.1 0 - tk st (u.2 3) 16 < n
    · rw [if_pos h1, if_pos rfl, if_pos h1]
      by_cases h2 : od st (u.2 8) 2 16 = -1
      · rw [pt_stub_n (u := s2 st u) h2, if_pos h2]
        rfl
      · rw [pt_stub_p (u := s2 st u) h2, if_neg h2]
        show (if (1 : Int32) = 0 then _ else dt_makeRoom_2 k (s2 (upd st (od st (u.2 8) 2 16).toNatClampNeg 3) (s2 st u)) n (nI j + 1)) = _
        rw [if_neg (by decide), s2_s2, nI_1]
        exact ih (j + 1) k _ (by omega) (by omega)
    · rw [if_neg h1, if_neg (by decide), if_neg h1, pt_room]
      show ts_z (if u.1 0 - tk st (u.2 3) 16 < n then 0 else 1) (some (if u.1 0 - tk st (u.2 3) 16 < n then 0 else 1, s2 st u)) = _
      rw [if_neg h1, pu_z1]
theorem pt_mr (u : ts_S) (n : Int32) : dt_makeRoom u n = some ((mr (u.1 0) n (u.2 3) (u.2 8) 16 (u.2 2)).1, s2 (mr (u.1 0) n (u.2 3) (u.2 8) 16 (u.2 2)).2 u) := by
  have h := pt_mr_l u n 16 0 40 (u.2 2) rfl (by decide)
  rw [s2_self] at h
  exact h
theorem pm_mr_0 (u : ts_S) (n : Int32) (h1 : u.1 0 - tk (u.2 2) (u.2 3) 16 < n) (h2 : od (u.2 2) (u.2 8) 2 16 = -1) : ∀ (d j k : Nat), j + d = 16 → d < k → dm_makeRoom_2 k u n (nI j) = some (0, u) := by
  intro d
  induction d with
  | zero =>
    intro j k hj hk
    obtain ⟨k, rfl⟩ := pu_nn hk
    obtain rfl : j = 16 := by omega
    show dm_makeRoom_2_b (dm_makeRoom_2 k) u n (nI 16) = _
    unfold dm_makeRoom_2_b
    rw [if_pos (by decide), pm_taken]
    simp only [ts_b]
    rw [if_pos h1]
  | succ d ih =>
    intro j k hj hk
    obtain ⟨k, rfl⟩ := pu_nn hk
    have h : j < 16 := by omega
    show dm_makeRoom_2_b (dm_makeRoom_2 k) u n (nI j) = _
    unfold dm_makeRoom_2_b
    rw [if_neg (pu_16 h), pm_taken]
    simp only [ts_b]
    rw [if_neg (Int32.not_le.mpr h1), pm_old, h2]
    simp only []
    rw [if_pos (by decide), nI_1]
    exact ih (j + 1) k (by omega) (by omega)
theorem pm_mr_l (u : ts_S) (n : Int32) : ∀ (d j k : Nat) (st : Nat → Int32), j + d = 16 → d < k → dm_makeRoom_2 k (s2 st u) n (nI j) = some ((mr (u.1 0) n (u.2 3) (u.2 8) d st).1, s2 (mr (u.1 0) n (u.2 3) (u.2 8) d st).2 u) := by
  intro d
  induction d with
  | zero =>
    intro j k st hj hk
    obtain ⟨k, rfl⟩ := pu_nn hk
    obtain rfl : j = 16 := by omega
    show dm_makeRoom_2_b (dm_makeRoom_2 k) (s2 st u) n (nI 16) = _
    unfold dm_makeRoom_2_b
    rw [if_pos (by decide), pm_taken]
    simp only [ts_b]
    show (if u.1 0 - tk st (u.2 3) 16 < n then some ((0 : Int32), s2 st u) else some (1, s2 st u)) = some (if u.1 0 - tk st (u.2 3) 16 < n then 0 else 1, s2 st u)
    by_cases h : u.1 0 - tk st (u.2 3) 16 < n
    · rw [if_pos h, if_pos h]
    · rw [if_neg h, if_neg h]
  | succ d ih =>
    intro j k st hj hk
    obtain ⟨k, rfl⟩ := pu_nn hk
    have h : j < 16 := by omega
    by_cases h1 : u.1 0 - tk st (u.2 3) 16 < n
    · by_cases h2 : od st (u.2 8) 2 16 = -1
      · rw [pm_mr_0 (s2 st u) n h1 h2 (d + 1) j (k + 1) hj hk, mr_s, if_pos h1, if_pos h2]
      · show dm_makeRoom_2_b (dm_makeRoom_2 k) (s2 st u) n (nI j) = _
        unfold dm_makeRoom_2_b
        rw [if_neg (pu_16 h), pm_taken]
        simp only [ts_b]
        have h1' : ¬ n ≤ (s2 st u).1 0 - tk ((s2 st u).2 2) ((s2 st u).2 3) 16 := Int32.not_le.mpr h1
        rw [if_neg h1', pm_old]
        have e : od ((s2 st u).2 2) ((s2 st u).2 8) 2 16 = od st (u.2 8) 2 16 := rfl
        rw [e]
        simp only []
        rcases od_in st (u.2 8) 2 16 with q | ⟨f, hf, q, -⟩
        · exact absurd q h2
        · rw [mr_s, if_pos h1, if_neg h2, q, if_neg (nI_pos (by omega)), pu_ix hf (by decide), s2_a, nI_1]
          exact ih (j + 1) k _ (by omega) (by omega)
    · show dm_makeRoom_2_b (dm_makeRoom_2 k) (s2 st u) n (nI j) = _
      unfold dm_makeRoom_2_b
      rw [if_neg (pu_16 h), pm_taken]
      simp only [ts_b]
      have h1' : n ≤ (s2 st u).1 0 - tk ((s2 st u).2 2) ((s2 st u).2 3) 16 := Int32.not_lt.mp h1
      have h1'' : ¬ (s2 st u).1 0 - tk ((s2 st u).2 2) ((s2 st u).2 3) 16 < n := h1
      rw [if_pos h1', pm_taken]
      simp only []
      rw [if_neg h1'', mr_s, if_neg h1]
theorem pm_mr (u : ts_S) (n : Int32) : dm_makeRoom u n = some ((mr (u.1 0) n (u.2 3) (u.2 8) 16 (u.2 2)).1, s2 (mr (u.1 0) n (u.2 3) (u.2 8) 16 (u.2 2)).2 u) := by
  have h := pm_mr_l u n 16 0 40 (u.2 2) rfl (by decide)
  rw [s2_self] at h
  exact h
/-- what making room changes: some DOUBLE files are STUBs -/
theorem mr_in (rm n : Int32) (le us : Nat → Int32) : ∀ (d : Nat) (st : Nat → Int32), ((mr rm n le us d st).1 = 0 ∨ (mr rm n le us d st).1 = 1) ∧ ∀ f, (mr rm n le us d st).2 f = st f ∨ (st f = 2 ∧ (mr rm n le us d st).2 f = 3) := by
  intro d
  induction d with
  | zero =>
    intro st
    refine ⟨?_, fun f => Or.inl rfl⟩
    show (if rm - tk st le 16 < n then (0 : Int32) else 1) = 0 ∨ (if rm - tk st le 16 < n then (0 : Int32) else 1) = 1
    by_cases h : rm - tk st le 16 < n
    · rw [if_pos h]; exact Or.inl rfl
    · rw [if_neg h]; exact Or.inr rfl
  | succ d ih =>
    intro st
    rw [mr_s]
    by_cases h1 : rm - tk st le 16 < n
    · rw [if_pos h1]
      by_cases h2 : od st us 2 16 = -1
      · rw [if_pos h2]
        exact ⟨Or.inl rfl, fun f => Or.inl rfl⟩
      · rw [if_neg h2]
        obtain ⟨i1, i2⟩ := ih (upd st (od st us 2 16).toNatClampNeg 3)
        refine ⟨i1, fun f => ?_⟩
        rcases od_in st us 2 16 with q | ⟨g, hg, q, hs⟩
        · exact absurd q h2
        · have i3 := i2 f
          rw [q, pu_cl hg] at i3 ⊢
          by_cases hf : f = g
          · subst hf
            have e : upd st f 3 f = 3 := if_pos rfl
            rw [e] at i3
            rcases i3 with i3 | ⟨i3, -⟩
            · exact Or.inr ⟨hs, i3⟩
            · exact absurd i3 (by decide)
          · have e : upd st g 3 f = st f := if_neg hf
            rw [e] at i3
            exact i3
    · rw [if_neg h1]
      exact ⟨Or.inr rfl, fun f => Or.inl rfl⟩
/-- tidying in at most d turns: how many became stubs, and the new states -/
def td (lo : Int32) (le us : Nat → Int32) : Nat → (Nat → Int32) → Nat × (Nat → Int32)
  | 0, st => (0, st)
  | d + 1, st => if tk st le 16 ≤ lo then (0, st) else if od st us 2 16 = -1 then (0, st) else ((td lo le us d (upd st (od st us 2 16).toNatClampNeg 3)).1 + 1, (td lo le us d (upd st (od st us 2 16).toNatClampNeg 3)).2)
theorem td_s (lo : Int32) (le us : Nat → Int32) (d : Nat) (st : Nat → Int32) : td lo le us (d + 1) st = if tk st le 16 ≤ lo then (0, st) else if od st us 2 16 = -1 then (0, st) else ((td lo le us d (upd st (od st us 2 16).toNatClampNeg 3)).1 + 1, (td lo le us d (upd st (od st us 2 16).toNatClampNeg 3)).2) := rfl
theorem pt_td_l (u : ts_S) (hi lo : Int32) : ∀ (d j k : Nat) (st : Nat → Int32), j + d = 16 → d < k → dt_tidy_33 k (s2 st u) hi lo (nI j) = some (nI (j + (td lo (u.2 3) (u.2 8) d st).1), s2 (td lo (u.2 3) (u.2 8) d st).2 u) := by
  intro d
  induction d with
  | zero =>
    intro j k st hj hk
    obtain ⟨k, rfl⟩ := pu_nn hk
    obtain rfl : j = 16 := by omega
    show dt_tidy_33_b (dt_tidy_33 k) (s2 st u) hi lo (nI 16) = _
    unfold dt_tidy_33_b
    rw [if_pos (by decide)]
    rfl
  | succ d ih =>
    intro j k st hj hk
    obtain ⟨k, rfl⟩ := pu_nn hk
    have h : j < 16 := by omega
    show dt_tidy_33_b (dt_tidy_33 k) (s2 st u) hi lo (nI j) = _
    unfold dt_tidy_33_b
    rw [if_neg (pu_16 h), pt_taken]
    simp only [ts_b]
    have e : tk ((s2 st u).2 2) ((s2 st u).2 3) 16 = tk st (u.2 3) 16 := rfl
    rw [td_s, e]
    by_cases h1 : tk st (u.2 3) 16 ≤ lo
    · rw [if_pos h1, if_pos h1]
      rfl
    · rw [if_neg h1, if_neg h1]
      by_cases h2 : od st (u.2 8) 2 16 = -1
      · rw [pt_stub_n (u := s2 st u) h2, if_pos h2]
        rfl
      · rw [pt_stub_p (u := s2 st u) h2, if_neg h2]
        show (if (1 : Int32) = 0 then _ else dt_tidy_33 k (s2 (upd st (od st (u.2 8) 2 16).toNatClampNeg 3) (s2 st u)) hi lo (nI j + 1)) = _
        rw [if_neg (by decide), s2_s2, nI_1, ih (j + 1) k _ (by omega) (by omega)]
        have e2 : j + 1 + (td lo (u.2 3) (u.2 8) d (upd st (od st (u.2 8) 2 16).toNatClampNeg 3)).1 = j + ((td lo (u.2 3) (u.2 8) d (upd st (od st (u.2 8) 2 16).toNatClampNeg 3)).1 + 1) := by omega
        rw [e2]
theorem pm_td_0 (u : ts_S) (hi lo x : Int32) : ∀ (d j k : Nat), j + d = 16 → d < k → dm_tidy_45 k u hi lo x 0 (nI j) = some (x, u) := by
  intro d
  induction d with
  | zero =>
    intro j k hj hk
    obtain ⟨k, rfl⟩ := pu_nn hk
    obtain rfl : j = 16 := by omega
    show dm_tidy_45_b (dm_tidy_45 k) u hi lo x 0 (nI 16) = _
    unfold dm_tidy_45_b
    rw [if_pos (by decide)]
  | succ d ih =>
    intro j k hj hk
    obtain ⟨k, rfl⟩ := pu_nn hk
    have h : j < 16 := by omega
    show dm_tidy_45_b (dm_tidy_45 k) u hi lo x 0 (nI j) = _
    unfold dm_tidy_45_b
    rw [if_neg (pu_16 h), pm_old]
    simp only [ts_b]
    rw [if_pos trivial, nI_1]
    exact ih (j + 1) k (by omega) (by omega)
theorem pm_td_1 (u : ts_S) (hi lo x : Int32) (hs : tk (u.2 2) (u.2 3) 16 ≤ lo ∨ od (u.2 2) (u.2 8) 2 16 = -1) : ∀ (d j k : Nat), j + d = 16 → d < k → dm_tidy_45 k u hi lo x 1 (nI j) = some (x, u) := by
  intro d
  induction d with
  | zero =>
    intro j k hj hk
    obtain ⟨k, rfl⟩ := pu_nn hk
    obtain rfl : j = 16 := by omega
    show dm_tidy_45_b (dm_tidy_45 k) u hi lo x 1 (nI 16) = _
    unfold dm_tidy_45_b
    rw [if_pos (by decide)]
  | succ d ih =>
    intro j k hj hk
    obtain ⟨k, rfl⟩ := pu_nn hk
    have h : j < 16 := by omega
    show dm_tidy_45_b (dm_tidy_45 k) u hi lo x 1 (nI j) = _
    unfold dm_tidy_45_b
    rw [if_neg (pu_16 h), pm_old]
    simp only [ts_b]
    rw [if_neg (by decide), pm_taken]
    simp only []
    by_cases h1 : tk (u.2 2) (u.2 3) 16 ≤ lo
    · rw [if_pos h1, nI_1]
      exact ih (j + 1) k (by omega) (by omega)
    · rw [if_neg h1]
      rcases hs with q | q
      · exact absurd q h1
      · rw [q, if_pos (by decide), nI_1]
        exact ih (j + 1) k (by omega) (by omega)
theorem pm_td_l (u : ts_S) (hi lo : Int32) : ∀ (d j k a : Nat) (st : Nat → Int32), j + d = 16 → d < k → dm_tidy_45 k (s2 st u) hi lo (nI a) 1 (nI j) = some (nI (a + (td lo (u.2 3) (u.2 8) d st).1), s2 (td lo (u.2 3) (u.2 8) d st).2 u) := by
  intro d
  induction d with
  | zero =>
    intro j k a st hj hk
    obtain ⟨k, rfl⟩ := pu_nn hk
    obtain rfl : j = 16 := by omega
    show dm_tidy_45_b (dm_tidy_45 k) (s2 st u) hi lo (nI a) 1 (nI 16) = _
    unfold dm_tidy_45_b
    rw [if_pos (by decide)]
    rfl
  | succ d ih =>
    intro j k a st hj hk
    have h : j < 16 := by omega
    rw [td_s]
    by_cases h1 : tk st (u.2 3) 16 ≤ lo
    · rw [if_pos h1, pm_td_1 (s2 st u) hi lo (nI a) (Or.inl h1) (d + 1) j k hj hk]
      rfl
    · rw [if_neg h1]
      by_cases h2 : od st (u.2 8) 2 16 = -1
      · rw [if_pos h2, pm_td_1 (s2 st u) hi lo (nI a) (Or.inr h2) (d + 1) j k hj hk]
        rfl
      · rw [if_neg h2]
        obtain ⟨k, rfl⟩ := pu_nn hk
        show dm_tidy_45_b (dm_tidy_45 k) (s2 st u) hi lo (nI a) 1 (nI j) = _
        unfold dm_tidy_45_b
        rw [if_neg (pu_16 h), pm_old]
        have e : od ((s2 st u).2 2) ((s2 st u).2 8) 2 16 = od st (u.2 8) 2 16 := rfl
        have e1 : tk ((s2 st u).2 2) ((s2 st u).2 3) 16 = tk st (u.2 3) 16 := rfl
        rw [e]
        simp only [ts_b]
        rw [if_neg (by decide), pm_taken, e1]
        simp only []
        rw [if_neg h1]
        rcases od_in st (u.2 8) 2 16 with q | ⟨f, hf, q, -⟩
        · exact absurd q h2
        · rw [q, if_neg (nI_pos (by omega)), pu_ix hf (by decide), s2_a, nI_1, nI_1, ih (j + 1) k (a + 1) _ (by omega) (by omega)]
          have e2 : a + 1 + (td lo (u.2 3) (u.2 8) d (upd st (nI f).toNatClampNeg 3)).1 = a + ((td lo (u.2 3) (u.2 8) d (upd st (nI f).toNatClampNeg 3)).1 + 1) := by omega
          rw [e2]
theorem td_in (lo : Int32) (le us : Nat → Int32) : ∀ (d : Nat) (st : Nat → Int32) (f : Nat), (td lo le us d st).2 f = st f ∨ (st f = 2 ∧ (td lo le us d st).2 f = 3) := by
  intro d
  induction d with
  | zero => intro st f; exact Or.inl rfl
  | succ d ih =>
    intro st f
    rw [td_s]
    by_cases h1 : tk st le 16 ≤ lo
    · rw [if_pos h1]; exact Or.inl rfl
    · rw [if_neg h1]
      by_cases h2 : od st us 2 16 = -1
      · rw [if_pos h2]; exact Or.inl rfl
      · rw [if_neg h2]
        have i3 := ih (upd st (od st us 2 16).toNatClampNeg 3) f
        show (td lo le us d (upd st (od st us 2 16).toNatClampNeg 3)).2 f = st f ∨ (st f = 2 ∧ (td lo le us d (upd st (od st us 2 16).toNatClampNeg 3)).2 f = 3)
        rcases od_in st us 2 16 with q | ⟨g, hg, q, hs⟩
        · exact absurd q h2
        · rw [q, pu_cl hg] at i3 ⊢
          by_cases hf : f = g
          · subst hf
            have e : upd st f 3 f = 3 := if_pos rfl
            rw [e] at i3
            rcases i3 with i3 | ⟨i3, -⟩
            · exact Or.inr ⟨hs, i3⟩
            · exact absurd i3 (by decide)
          · have e : upd st g 3 f = st f := if_neg hf
            rw [e] at i3
            exact i3
