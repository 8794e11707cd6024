/-! pure: closed forms of the loops over the files -/
theorem pu_ix {α : Type} {j n : Nat} (h : j < n) (hn : n < 2 ^ 31) (t : Option α) : ts_ix (nI j) n t = t := by
  unfold ts_ix
  rw [if_neg (nI_in h hn)]
theorem pu_16 {j : Nat} (h : j < 16) : ¬ (16 : Int32) ≤ nI j := nI_ge (a := j) (b := 16) h (by decide)
theorem pu_4 {j : Nat} (h : j < 4) : ¬ (4 : Int32) ≤ nI j := nI_ge (a := j) (b := 4) h (by decide)
theorem pu_cl {j : Nat} (h : j < 16) : (nI j).toNatClampNeg = j := nI_clamp (by omega)
theorem pu_m1 {j : Nat} (h : j < 2 ^ 31) : ¬ nI j = -1 := fun e => nI_pos h (by rw [e]; decide)
theorem pu_nn {n d : Nat} (h : d < n) : ∃ k, n = k + 1 := ⟨n - 1, by omega⟩
def tk (st le : Nat → Int32) : Nat → Int32
  | 0 => 0
  | n + 1 => if st n = 1 ∨ st n = 2 then tk st le n + le n else tk st le n
theorem tk_s (st le : Nat → Int32) (n : Nat) : tk st le (n + 1) = if st n = 1 ∨ st n = 2 then tk st le n + le n else tk st le n := rfl
theorem pt_onDisk (u : ts_S) {j : Nat} (h : j < 16) : dt_isOnDisk u (nI j) = some (if u.2 2 j = 1 ∨ u.2 2 j = 2 then 1 else 0, u) := by
  unfold dt_isOnDisk
  simp only [pu_ix h (by decide), pu_cl h]
  by_cases h1 : u.2 2 j = 1
  · rw [if_pos h1, if_pos (Or.inl h1)]
  · rw [if_neg h1]
    by_cases h2 : u.2 2 j = 2
    · rw [if_pos h2, if_pos (Or.inr h2)]
    · rw [if_neg h2, if_neg (by rintro (h | h) <;> contradiction)]
theorem pt_taken_l (u : ts_S) : ∀ (d j n : Nat), j + d = 16 → d < n → dt_unitsTaken_4 n u (tk (u.2 2) (u.2 3) j) (nI j) = some (tk (u.2 2) (u.2 3) 16, u) := by
  intro d
  induction d with
  | zero =>
    intro j n hj hn
    obtain ⟨n, rfl⟩ := pu_nn hn
    obtain rfl : j = 16 := by omega
    show dt_unitsTaken_4_b (dt_unitsTaken_4 n) u _ (nI 16) = _
    unfold dt_unitsTaken_4_b
    rw [if_pos (by decide)]
  | succ d ih =>
    intro j n hj hn
    obtain ⟨n, rfl⟩ := pu_nn hn
    have h : j < 16 := by omega
    have ih := ih (j + 1) n (by omega) (by omega)
    show dt_unitsTaken_4_b (dt_unitsTaken_4 n) u _ (nI j) = _
    unfold dt_unitsTaken_4_b
    rw [if_neg (pu_16 h), pt_onDisk u h]
    simp only [ts_b, nI_1, pu_ix h (by decide), pu_cl h]
    rw [tk_s] at ih
    by_cases hq : u.2 2 j = 1 ∨ u.2 2 j = 2
    · rw [if_pos hq] at ih
      rw [if_pos hq, if_neg (by decide)]
      exact ih
    · rw [if_neg hq] at ih
      rw [if_neg hq, if_pos rfl]
      exact ih
theorem pt_taken (u : ts_S) : dt_unitsTaken u = some (tk (u.2 2) (u.2 3) 16, u) := pt_taken_l u 16 0 40 rfl (by decide)
theorem pm_taken_l (u : ts_S) : ∀ (d j n : Nat), j + d = 16 → d < n → dm_taken_4 n u (tk (u.2 2) (u.2 3) j) (nI j) = some (tk (u.2 2) (u.2 3) 16, u) := by
  intro d
  induction d with
  | zero =>
    intro j n hj hn
    obtain ⟨n, rfl⟩ := pu_nn hn
    obtain rfl : j = 16 := by omega
    show dm_taken_4_b (dm_taken_4 n) u _ (nI 16) = _
    unfold dm_taken_4_b
    rw [if_pos (by decide)]
  | succ d ih =>
    intro j n hj hn
    obtain ⟨n, rfl⟩ := pu_nn hn
    have h : j < 16 := by omega
    have ih := ih (j + 1) n (by omega) (by omega)
    show dm_taken_4_b (dm_taken_4 n) u _ (nI j) = _
    unfold dm_taken_4_b
    rw [if_neg (pu_16 h)]
    simp only [nI_1, pu_ix h (by decide), pu_cl h]
    rw [tk_s] at ih
    by_cases h1 : u.2 2 j = 1
    · rw [if_pos (Or.inl h1)] at ih
      rw [if_pos h1]
      exact ih
    · rw [if_neg h1]
      by_cases h2 : u.2 2 j = 2
      · rw [if_pos (Or.inr h2)] at ih
        rw [if_pos h2]
        exact ih
      · rw [if_neg (by rintro (h | h) <;> contradiction)] at ih
        rw [if_neg h2]
        exact ih
theorem pm_taken (u : ts_S) : dm_taken u = some (tk (u.2 2) (u.2 3) 16, u) := pm_taken_l u 16 0 40 rfl (by decide)
/-- the file of the state k that was used longest ago among the first n, or -1 -/
def od (st us : Nat → Int32) (k : Int32) : Nat → Int32
  | 0 => -1
  | n + 1 => if st n = k then (if od st us k n = -1 then nI n else if us (od st us k n).toNatClampNeg ≤ us n then od st us k n else nI n) else od st us k n
theorem od_s (st us : Nat → Int32) (k : Int32) (n : Nat) : od st us k (n + 1) = if st n = k then (if od st us k n = -1 then nI n else if us (od st us k n).toNatClampNeg ≤ us n then od st us k n else nI n) else od st us k n := rfl
theorem od_in (st us : Nat → Int32) (k : Int32) : ∀ n : Nat, od st us k n = -1 ∨ ∃ f, f < n ∧ od st us k n = nI f ∧ st f = k := by
  intro n
  induction n with
  | zero => exact Or.inl rfl
  | succ n ih =>
    rw [od_s]
    by_cases h1 : st n = k
    · rw [if_pos h1]
      by_cases h2 : od st us k n = -1
      · rw [if_pos h2]
        exact Or.inr ⟨n, by omega, rfl, h1⟩
      · rw [if_neg h2]
        by_cases h3 : us (od st us k n).toNatClampNeg ≤ us n
        · rw [if_pos h3]
          rcases ih with ih | ⟨f, hf, e, hs⟩
          · exact absurd ih h2
          · exact Or.inr ⟨f, by omega, e, hs⟩
        · rw [if_neg h3]
          exact Or.inr ⟨n, by omega, rfl, h1⟩
    · rw [if_neg h1]
      rcases ih with ih | ⟨f, hf, e, hs⟩
      · exact Or.inl ih
      · exact Or.inr ⟨f, by omega, e, hs⟩
theorem pt_old_l (u : ts_S) (k : Int32) : ∀ (d j n : Nat), j + d = 16 → d < n → dt_longestUnused_4 n u k (od (u.2 2) (u.2 8) k j) (nI j) = some (od (u.2 2) (u.2 8) k 16, u) := by
  intro d
  induction d with
  | zero =>
    intro j n hj hn
    obtain ⟨n, rfl⟩ := pu_nn hn
    obtain rfl : j = 16 := by omega
    show dt_longestUnused_4_b (dt_longestUnused_4 n) u k _ (nI 16) = _
    unfold dt_longestUnused_4_b
    rw [if_pos (by decide)]
  | succ d ih =>
    intro j n hj hn
    obtain ⟨n, rfl⟩ := pu_nn hn
    have h : j < 16 := by omega
    have ih := ih (j + 1) n (by omega) (by omega)
    show dt_longestUnused_4_b (dt_longestUnused_4 n) u k _ (nI j) = _
    unfold dt_longestUnused_4_b
    rw [if_neg (pu_16 h)]
    simp only [nI_1, pu_ix h (by decide), pu_cl h]
    rw [od_s] at ih
    by_cases h1 : u.2 2 j = k
    · rw [if_pos h1] at ih ⊢
      rcases od_in (u.2 2) (u.2 8) k j with h2 | ⟨f, hf, h2, -⟩
      · rw [if_pos h2] at ih ⊢
        exact ih
      · have h3 : ¬ od (u.2 2) (u.2 8) k j = -1 := by rw [h2]; exact pu_m1 (by omega)
        rw [if_neg h3] at ih ⊢
        rw [h2] at ih ⊢
        simp only [pu_ix (show f < 16 by omega) (by decide), pu_cl (show f < 16 by omega)] at ih ⊢
        by_cases h4 : u.2 8 f ≤ u.2 8 j
        · rw [if_pos h4] at ih ⊢
          exact ih
        · rw [if_neg h4] at ih ⊢
          exact ih
    · rw [if_neg h1] at ih ⊢
      exact ih
theorem pt_old (u : ts_S) (k : Int32) : dt_longestUnused u k = some (od (u.2 2) (u.2 8) k 16, u) := pt_old_l u k 16 0 40 rfl (by decide)
theorem pm_old_l (u : ts_S) (k : Int32) : ∀ (d j n : Nat), j + d = 16 → d < n → dm_oldest_4 n u k (od (u.2 2) (u.2 8) k j) (nI j) = some (od (u.2 2) (u.2 8) k 16, u) := by
  intro d
  induction d with
  | zero =>
    intro j n hj hn
    obtain ⟨n, rfl⟩ := pu_nn hn
    obtain rfl : j = 16 := by omega
    show dm_oldest_4_b (dm_oldest_4 n) u k _ (nI 16) = _
    unfold dm_oldest_4_b
    rw [if_pos (by decide)]
  | succ d ih =>
    intro j n hj hn
    obtain ⟨n, rfl⟩ := pu_nn hn
    have h : j < 16 := by omega
    have ih := ih (j + 1) n (by omega) (by omega)
    show dm_oldest_4_b (dm_oldest_4 n) u k _ (nI j) = _
    unfold dm_oldest_4_b
    rw [if_neg (pu_16 h)]
    simp only [nI_1, pu_ix h (by decide), pu_cl h]
    rw [od_s] at ih
    by_cases h1 : u.2 2 j = k
    · rw [if_pos h1] at ih ⊢
      rcases od_in (u.2 2) (u.2 8) k j with h2 | ⟨f, hf, h2, -⟩
      · rw [if_pos h2] at ih
        rw [if_pos (by rw [h2]; decide)]
        exact ih
      · have h3 : ¬ od (u.2 2) (u.2 8) k j = -1 := by rw [h2]; exact pu_m1 (by omega)
        rw [if_neg h3] at ih
        rw [if_neg (by rw [h2]; exact nI_pos (by omega))]
        rw [h2] at ih ⊢
        simp only [pu_ix (show f < 16 by omega) (by decide), pu_cl (show f < 16 by omega)] at ih ⊢
        by_cases h4 : u.2 8 f ≤ u.2 8 j
        · rw [if_pos h4] at ih ⊢
          exact ih
        · rw [if_neg h4] at ih ⊢
          exact ih
    · rw [if_neg h1] at ih ⊢
      exact ih
theorem pm_old (u : ts_S) (k : Int32) : dm_oldest u k = some (od (u.2 2) (u.2 8) k 16, u) := pm_old_l u k 16 0 40 rfl (by decide)
/-- how many wait among the first n -/
def wt (w : Nat → Int32) : Nat → Nat
  | 0 => 0
  | n + 1 => if w n = 0 then wt w n else wt w n + 1
theorem wt_s (w : Nat → Int32) (n : Nat) : wt w (n + 1) = if w n = 0 then wt w n else wt w n + 1 := rfl
theorem pt_wait_l (u : ts_S) : ∀ (d j n : Nat), j + d = 16 → d < n → dt_filesWaiting_4 n u (nI (wt (u.2 7) j)) (nI j) = some (nI (wt (u.2 7) 16), u) := by
  intro d
  induction d with
  | zero =>
    intro j n hj hn
    obtain ⟨n, rfl⟩ := pu_nn hn
    obtain rfl : j = 16 := by omega
    show dt_filesWaiting_4_b (dt_filesWaiting_4 n) u _ (nI 16) = _
    unfold dt_filesWaiting_4_b
    rw [if_pos (by decide)]
  | succ d ih =>
    intro j n hj hn
    obtain ⟨n, rfl⟩ := pu_nn hn
    have h : j < 16 := by omega
    have ih := ih (j + 1) n (by omega) (by omega)
    show dt_filesWaiting_4_b (dt_filesWaiting_4 n) u _ (nI j) = _
    unfold dt_filesWaiting_4_b
    rw [if_neg (pu_16 h)]
    simp only [nI_1, pu_ix h (by decide), pu_cl h]
    rw [wt_s] at ih
    by_cases hq : u.2 7 j = 0
    · rw [if_pos hq] at ih ⊢
      exact ih
    · rw [if_neg hq] at ih ⊢
      exact ih
theorem pt_wait (u : ts_S) : dt_filesWaiting u = some (nI (wt (u.2 7) 16), u) := pt_wait_l u 16 0 40 rfl (by decide)
theorem pm_wait_l (u : ts_S) : ∀ (d j n : Nat), j + d = 16 → d < n → dm_waiting_4 n u (nI (wt (u.2 7) j)) (nI j) = some (nI (wt (u.2 7) 16), u) := by
  intro d
  induction d with
  | zero =>
    intro j n hj hn
    obtain ⟨n, rfl⟩ := pu_nn hn
    obtain rfl : j = 16 := by omega
    show dm_waiting_4_b (dm_waiting_4 n) u _ (nI 16) = _
    unfold dm_waiting_4_b
    rw [if_pos (by decide)]
  | succ d ih =>
    intro j n hj hn
    obtain ⟨n, rfl⟩ := pu_nn hn
    have h : j < 16 := by omega
    have ih := ih (j + 1) n (by omega) (by omega)
    show dm_waiting_4_b (dm_waiting_4 n) u _ (nI j) = _
    unfold dm_waiting_4_b
    rw [if_neg (pu_16 h)]
    simp only [nI_1, pu_ix h (by decide), pu_cl h]
    rw [wt_s] at ih
    by_cases hq : u.2 7 j = 0
    · rw [if_pos hq] at ih ⊢
      exact ih
    · rw [if_neg hq] at ih ⊢
      exact ih
theorem pm_wait (u : ts_S) : dm_waiting u = some (nI (wt (u.2 7) 16), u) := pm_wait_l u 16 0 40 rfl (by decide)
/-- how many of the first n that are not absent were used later than x -/
def ul (st us : Nat → Int32) (x : Int32) : Nat → Int32
  | 0 => 0
  | n + 1 => if st n = 0 then ul st us x n else if us n ≤ x then ul st us x n else ul st us x n + 1
theorem ul_s (st us : Nat → Int32) (x : Int32) (n : Nat) : ul st us x (n + 1) = if st n = 0 then ul st us x n else if us n ≤ x then ul st us x n else ul st us x n + 1 := rfl
theorem pt_ul_l (u : ts_S) {f : Nat} (hf : f < 16) : ∀ (d j n : Nat), j + d = 16 → d < n → dt_usedSince_4 n u (nI f) (ul (u.2 2) (u.2 8) (u.2 8 f) j) (nI j) = some (ul (u.2 2) (u.2 8) (u.2 8 f) 16, u) := by
  intro d
  induction d with
  | zero =>
    intro j n hj hn
    obtain ⟨n, rfl⟩ := pu_nn hn
    obtain rfl : j = 16 := by omega
    show dt_usedSince_4_b (dt_usedSince_4 n) u _ _ (nI 16) = _
    unfold dt_usedSince_4_b
    rw [if_pos (by decide)]
  | succ d ih =>
    intro j n hj hn
    obtain ⟨n, rfl⟩ := pu_nn hn
    have h : j < 16 := by omega
    have ih := ih (j + 1) n (by omega) (by omega)
    show dt_usedSince_4_b (dt_usedSince_4 n) u _ _ (nI j) = _
    unfold dt_usedSince_4_b
    rw [if_neg (pu_16 h)]
    simp only [nI_1, pu_ix h (by decide), pu_cl h, pu_ix hf (by decide), pu_cl hf]
    rw [ul_s] at ih
    by_cases hq : u.2 2 j = 0
    · rw [if_pos hq] at ih ⊢
      exact ih
    · rw [if_neg hq] at ih ⊢
      by_cases hq : u.2 8 j ≤ u.2 8 f
      · rw [if_pos hq] at ih ⊢
        exact ih
      · rw [if_neg hq] at ih ⊢
        exact ih
theorem pt_ul (u : ts_S) {f : Nat} (hf : f < 16) : dt_usedSince u (nI f) = some (ul (u.2 2) (u.2 8) (u.2 8 f) 16, u) := pt_ul_l u hf 16 0 40 rfl (by decide)
theorem pm_ul_l (u : ts_S) {f : Nat} (hf : f < 16) (w : Int32) : ∀ (d j n : Nat), j + d = 16 → d < n → dm_file_135 n u (nI f) w (ul (u.2 2) (u.2 8) (u.2 8 f) j) (nI j) = some (ul (u.2 2) (u.2 8) (u.2 8 f) 16, u) := by
  intro d
  induction d with
  | zero =>
    intro j n hj hn
    obtain ⟨n, rfl⟩ := pu_nn hn
    obtain rfl : j = 16 := by omega
    show dm_file_135_b (dm_file_135 n) u _ _ _ (nI 16) = _
    unfold dm_file_135_b
    rw [if_pos (by decide)]
  | succ d ih =>
    intro j n hj hn
    obtain ⟨n, rfl⟩ := pu_nn hn
    have h : j < 16 := by omega
    have ih := ih (j + 1) n (by omega) (by omega)
    show dm_file_135_b (dm_file_135 n) u _ _ _ (nI j) = _
    unfold dm_file_135_b
    rw [if_neg (pu_16 h)]
    simp only [nI_1, pu_ix h (by decide), pu_cl h, pu_ix hf (by decide), pu_cl hf]
    rw [ul_s] at ih
    by_cases hq : u.2 2 j = 0
    · rw [if_pos hq] at ih ⊢
      exact ih
    · rw [if_neg hq] at ih ⊢
      by_cases hq : u.2 8 j ≤ u.2 8 f
      · rw [if_pos hq] at ih ⊢
        exact ih
      · rw [if_neg hq] at ih ⊢
        exact ih
theorem pm_ul (u : ts_S) {f : Nat} (hf : f < 16) (w : Int32) : dm_file_135 40 u (nI f) w 0 0 = some (ul (u.2 2) (u.2 8) (u.2 8 f) 16, u) := pm_ul_l u hf w 16 0 40 rfl (by decide)
