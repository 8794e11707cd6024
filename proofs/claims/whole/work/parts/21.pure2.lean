/-! pure: copies -/
theorem pt_hasCopy (u : ts_S) {j : Nat} (h : j < 16) : dt_hasCopy u (nI j) = some (if u.2 2 j = 2 ∨ u.2 2 j = 3 then 1 else 0, u) := by
  unfold dt_hasCopy
  simp only [pu_ix h (by decide), pu_cl h]
  by_cases h1 : u.2 2 j = 2
  · rw [if_pos h1, if_pos (Or.inl h1)]
  · rw [if_neg h1]
    by_cases h2 : u.2 2 j = 3
    · rw [if_pos h2, if_pos (Or.inr h2)]
    · rw [if_neg h2, if_neg (by rintro (h | h) <;> contradiction)]
theorem pm_copied (u : ts_S) {j : Nat} (h : j < 16) : dm_copied u (nI j) = some (if u.2 2 j = 2 ∨ u.2 2 j = 3 then 1 else 0, u) := by
  unfold dm_copied
  simp only [pu_ix h (by decide), pu_cl h]
  by_cases h1 : u.2 2 j = 2
  · rw [if_pos h1, if_pos (Or.inl h1)]
  · rw [if_neg h1]
    by_cases h2 : u.2 2 j = 3
    · rw [if_pos h2, if_pos (Or.inr h2)]
    · rw [if_neg h2, if_neg (by rintro (h | h) <;> contradiction)]
/-- the file j has a live copy on c -/
def lc (u : ts_S) (c : Int32) (j : Nat) : Prop := (u.2 2 j = 2 ∨ u.2 2 j = 3) ∧ u.2 5 j = c
theorem pt_copyOn (u : ts_S) (c : Int32) {j : Nat} (h : j < 16) : (lc u c j → dt_hasCopyOn u (nI j) c = some (1, u)) ∧ (¬ lc u c j → dt_hasCopyOn u (nI j) c = some (0, u)) := by
  unfold dt_hasCopyOn
  rw [pt_hasCopy u h]
  simp only [ts_b, pu_ix h (by decide), pu_cl h]
  constructor
  · rintro ⟨h1, h2⟩
    rw [if_pos h1, if_neg (by decide), if_pos h2]
  · intro hn
    by_cases h1 : u.2 2 j = 2 ∨ u.2 2 j = 3
    · rw [if_pos h1, if_neg (by decide), if_neg (fun q => hn ⟨h1, q⟩)]
    · rw [if_neg h1, if_pos rfl]
/-- units of the live copies on c among the first n files -/
noncomputable def lu (u : ts_S) (c : Int32) : Nat → Int32
  | 0 => 0
  | n + 1 => if (u.2 2 n = 2 ∨ u.2 2 n = 3) ∧ u.2 5 n = c then lu u c n + u.2 3 n else lu u c n
theorem lu_p {u : ts_S} {c : Int32} {n : Nat} (h : lc u c n) : lu u c (n + 1) = lu u c n + u.2 3 n := if_pos h
theorem lu_n {u : ts_S} {c : Int32} {n : Nat} (h : ¬ lc u c n) : lu u c (n + 1) = lu u c n := if_neg h
theorem pt_lu_l (u : ts_S) (c : Int32) : ∀ (d j n : Nat), j + d = 16 → d < n → dt_liveUnits_4 n u c (lu u c j) (nI j) = some (lu u c 16, u) := by
  intro d
  induction d with
  | zero =>
    intro j n hj hn
    obtain ⟨n, rfl⟩ := pu_nn hn
    obtain rfl : j = 16 := by omega
    show dt_liveUnits_4_b (dt_liveUnits_4 n) u c _ (nI 16) = _
    unfold dt_liveUnits_4_b
    rw [if_pos (by decide)]
  | succ d ih =>
    intro j n hj hn
    obtain ⟨n, rfl⟩ := pu_nn hn
    have h : j < 16 := by omega
    have ih := ih (j + 1) n (by omega) (by omega)
    show dt_liveUnits_4_b (dt_liveUnits_4 n) u c _ (nI j) = _
    unfold dt_liveUnits_4_b
    rw [if_neg (pu_16 h)]
    by_cases hq : lc u c j
    · rw [(pt_copyOn u c h).1 hq]
      rw [lu_p hq] at ih
      simp only [ts_b, nI_1, pu_ix h (by decide), pu_cl h]
      rw [if_neg (by decide)]
      exact ih
    · rw [(pt_copyOn u c h).2 hq]
      rw [lu_n hq] at ih
      simp only [ts_b, nI_1]
      rw [if_pos trivial]
      exact ih
theorem pt_lu (u : ts_S) (c : Int32) : dt_liveUnits u c = some (lu u c 16, u) := pt_lu_l u c 16 0 40 rfl (by decide)
theorem pm_lu_l (u : ts_S) (c w : Int32) : ∀ (d j n : Nat), j + d = 16 → d < n → dm_cartridge_53 n u c w (lu u c j) (nI j) = some (lu u c 16, u) := by
  intro d
  induction d with
  | zero =>
    intro j n hj hn
    obtain ⟨n, rfl⟩ := pu_nn hn
    obtain rfl : j = 16 := by omega
    show dm_cartridge_53_b (dm_cartridge_53 n) u c w _ (nI 16) = _
    unfold dm_cartridge_53_b
    rw [if_pos (by decide)]
  | succ d ih =>
    intro j n hj hn
    obtain ⟨n, rfl⟩ := pu_nn hn
    have h : j < 16 := by omega
    have ih := ih (j + 1) n (by omega) (by omega)
    show dm_cartridge_53_b (dm_cartridge_53 n) u c w _ (nI j) = _
    unfold dm_cartridge_53_b
    rw [if_neg (pu_16 h), pm_copied u h]
    simp only [ts_b, nI_1, pu_ix h (by decide), pu_cl h]
    by_cases h1 : u.2 2 j = 2 ∨ u.2 2 j = 3
    · rw [if_pos h1, if_neg (by decide)]
      by_cases h2 : u.2 5 j = c
      · rw [lu_p ⟨h1, h2⟩] at ih
        rw [if_pos h2]
        exact ih
      · rw [lu_n (fun q => h2 q.2)] at ih
        rw [if_neg h2]
        exact ih
    · rw [lu_n (fun q => h1 q.1)] at ih
      rw [if_neg h1, if_pos rfl]
      exact ih
theorem pm_lu (u : ts_S) (c w : Int32) : dm_cartridge_53 40 u c w 0 0 = some (lu u c 16, u) := pm_lu_l u c w 16 0 40 rfl (by decide)
/-- the first file from j on with a live copy on c at the place p -/
theorem pt_at_l (u : ts_S) (c p : Int32) : ∀ (d j n : Nat), j + d = 16 → d < n →
    (dt_fileWithCopyAt_2 n u c p (nI j) = some (-1, u) ∧ ∀ f, j ≤ f → f < 16 → ¬ (lc u c f ∧ u.2 6 f = p)) ∨ ∃ f, j ≤ f ∧ f < 16 ∧ lc u c f ∧ u.2 6 f = p ∧ dt_fileWithCopyAt_2 n u c p (nI j) = some (nI f, u) := by
  intro d
  induction d with
  | zero =>
    intro j n hj hn
    obtain ⟨n, rfl⟩ := pu_nn hn
    obtain rfl : j = 16 := by omega
    refine Or.inl ⟨?_, fun f h1 h2 => absurd h1 (by omega)⟩
    show dt_fileWithCopyAt_2_b (dt_fileWithCopyAt_2 n) u c p (nI 16) = _
    unfold dt_fileWithCopyAt_2_b
    rw [if_pos (by decide)]
  | succ d ih =>
    intro j n hj hn
    obtain ⟨n, rfl⟩ := pu_nn hn
    have h : j < 16 := by omega
    have ih := ih (j + 1) n (by omega) (by omega)
    have e : dt_fileWithCopyAt_2 (n + 1) u c p (nI j) = dt_fileWithCopyAt_2_b (dt_fileWithCopyAt_2 n) u c p (nI j) := rfl
    rw [e]
    unfold dt_fileWithCopyAt_2_b
    rw [if_neg (pu_16 h)]
    by_cases hq : lc u c j
    · rw [(pt_copyOn u c h).1 hq]
      simp only [ts_b, nI_1, pu_ix h (by decide), pu_cl h]
      rw [if_neg (by decide)]
      by_cases hp : u.2 6 j = p
      · rw [if_pos hp]
        exact Or.inr ⟨j, Nat.le_refl j, h, hq, hp, rfl⟩
      · rw [if_neg hp]
        rcases ih with ⟨i1, i2⟩ | ⟨f, f1, f2, f3, f4, f5⟩
        · refine Or.inl ⟨i1, fun f h1 h2 => ?_⟩
          rcases Nat.lt_or_ge j f with q | q
          · exact i2 f q h2
          · obtain rfl : f = j := by omega
            exact fun z => hp z.2
        · exact Or.inr ⟨f, by omega, f2, f3, f4, f5⟩
    · rw [(pt_copyOn u c h).2 hq]
      simp only [ts_b, nI_1]
      rw [if_pos trivial]
      rcases ih with ⟨i1, i2⟩ | ⟨f, f1, f2, f3, f4, f5⟩
      · refine Or.inl ⟨i1, fun f h1 h2 => ?_⟩
        rcases Nat.lt_or_ge j f with q | q
        · exact i2 f q h2
        · obtain rfl : f = j := by omega
          exact fun z => hq z.1
      · exact Or.inr ⟨f, by omega, f2, f3, f4, f5⟩
theorem pt_at (u : ts_S) (c p : Int32) : (dt_fileWithCopyAt u c p = some (-1, u) ∧ ∀ f, f < 16 → ¬ (lc u c f ∧ u.2 6 f = p)) ∨ ∃ f, f < 16 ∧ lc u c f ∧ u.2 6 f = p ∧ dt_fileWithCopyAt u c p = some (nI f, u) := by
  rcases pt_at_l u c p 16 0 40 rfl (by decide) with ⟨h1, h2⟩ | ⟨f, -, h⟩
  · exact Or.inl ⟨h1, fun f hf => h2 f (Nat.zero_le f) hf⟩
  · exact Or.inr ⟨f, h⟩
/-- next(c, p): the live copy on c with the least place from p on -/
theorem pm_next_l (u : ts_S) (c p : Int32) : ∀ (d j n : Nat) (b : Int32), j + d = 16 → d < n →
    (b = -1 ∧ (∀ f, f < j → ¬ (lc u c f ∧ ¬ u.2 6 f < p)) ∨ ∃ g, g < j ∧ b = nI g ∧ lc u c g ∧ ¬ u.2 6 g < p ∧ ∀ f, f < j → lc u c f → ¬ u.2 6 f < p → u.2 6 g ≤ u.2 6 f) →
    (dm_next_5 n u c p b (nI j) = some (-1, u) ∧ (∀ f, f < 16 → ¬ (lc u c f ∧ ¬ u.2 6 f < p))) ∨ ∃ g, g < 16 ∧ dm_next_5 n u c p b (nI j) = some (nI g, u) ∧ lc u c g ∧ ¬ u.2 6 g < p ∧ ∀ f, f < 16 → lc u c f → ¬ u.2 6 f < p → u.2 6 g ≤ u.2 6 f := by
  intro d
  induction d with
  | zero =>
    intro j n b hj hn hb
    obtain ⟨n, rfl⟩ := pu_nn hn
    obtain rfl : j = 16 := by omega
    have e : dm_next_5 (n + 1) u c p b (nI 16) = some (b, u) := by
      show dm_next_5_b (dm_next_5 n) u c p b (nI 16) = _
      unfold dm_next_5_b
      rw [if_pos (by decide)]
    rw [e]
    rcases hb with ⟨rfl, h⟩ | ⟨g, h1, rfl, h2⟩
    · exact Or.inl ⟨rfl, h⟩
    · exact Or.inr ⟨g, h1, rfl, h2⟩
  | succ d ih =>
    intro j n b hj hn hb
    obtain ⟨n, rfl⟩ := pu_nn hn
    have h : j < 16 := by omega
    have e : dm_next_5 (n + 1) u c p b (nI j) = dm_next_5_b (dm_next_5 n) u c p b (nI j) := rfl
    rw [e]
    unfold dm_next_5_b
    rw [if_neg (pu_16 h), pm_copied u h]
    simp only [ts_b, nI_1, pu_ix h (by decide), pu_cl h]
    have skip : ¬ (lc u c j ∧ ¬ u.2 6 j < p) → (b = -1 ∧ (∀ f, f < j + 1 → ¬ (lc u c f ∧ ¬ u.2 6 f < p)) ∨ ∃ g, g < j + 1 ∧ b = nI g ∧ lc u c g ∧ ¬ u.2 6 g < p ∧ ∀ f, f < j + 1 → lc u c f → ¬ u.2 6 f < p → u.2 6 g ≤ u.2 6 f) := by
      intro hs
      rcases hb with ⟨h1, h2⟩ | ⟨g, g1, g2, g3, g4, g5⟩
      · refine Or.inl ⟨h1, fun f hf => ?_⟩
        rcases Nat.lt_or_ge f j with q | q
        · exact h2 f q
        · obtain rfl : f = j := by omega
          exact hs
      · refine Or.inr ⟨g, by omega, g2, g3, g4, fun f hf a1 a2 => ?_⟩
        rcases Nat.lt_or_ge f j with q | q
        · exact g5 f q a1 a2
        · obtain rfl : f = j := by omega
          exact absurd ⟨a1, a2⟩ hs
    by_cases h1 : u.2 2 j = 2 ∨ u.2 2 j = 3
    · rw [if_pos h1, if_neg (by decide)]
      by_cases h2 : u.2 5 j = c
      · rw [if_pos h2]
        by_cases h3 : u.2 6 j < p
        · rw [if_pos h3]
          exact ih (j + 1) n b (by omega) (by omega) (skip (fun q => q.2 h3))
        · rw [if_neg h3]
          rcases hb with ⟨rfl, b2⟩ | ⟨g, g1, rfl, g3, g4, g5⟩
          · rw [if_pos (by decide)]
            refine ih (j + 1) n (nI j) (by omega) (by omega) (Or.inr ⟨j, by omega, rfl, ⟨h1, h2⟩, h3, fun f hf a1 a2 => ?_⟩)
            rcases Nat.lt_or_ge f j with q | q
            · exact absurd ⟨a1, a2⟩ (b2 f q)
            · obtain rfl : f = j := by omega
              exact Int32.le_refl _
          · rw [if_neg (nI_pos (by omega))]
            simp only [pu_ix (show g < 16 by omega) (by decide), pu_cl (show g < 16 by omega)]
            by_cases h4 : u.2 6 g ≤ u.2 6 j
            · rw [if_pos h4]
              refine ih (j + 1) n (nI g) (by omega) (by omega) (Or.inr ⟨g, by omega, rfl, g3, g4, fun f hf a1 a2 => ?_⟩)
              rcases Nat.lt_or_ge f j with q | q
              · exact g5 f q a1 a2
              · obtain rfl : f = j := by omega
                exact h4
            · rw [if_neg h4]
              refine ih (j + 1) n (nI j) (by omega) (by omega) (Or.inr ⟨j, by omega, rfl, ⟨h1, h2⟩, h3, fun f hf a1 a2 => ?_⟩)
              rcases Nat.lt_or_ge f j with q | q
              · have := g5 f q a1 a2
                exact Int32.le_trans (Int32.le_of_lt (Int32.not_le.mp h4)) this
              · obtain rfl : f = j := by omega
                exact Int32.le_refl _
      · rw [if_neg h2]
        exact ih (j + 1) n b (by omega) (by omega) (skip (fun q => h2 q.1.2))
    · rw [if_neg h1, if_pos rfl]
      exact ih (j + 1) n b (by omega) (by omega) (skip (fun q => h1 q.1.1))
theorem pm_next (u : ts_S) (c p : Int32) : (dm_next u c p = some (-1, u) ∧ (∀ f, f < 16 → ¬ (lc u c f ∧ ¬ u.2 6 f < p))) ∨ ∃ g, g < 16 ∧ dm_next u c p = some (nI g, u) ∧ lc u c g ∧ ¬ u.2 6 g < p ∧ ∀ f, f < 16 → lc u c f → ¬ u.2 6 f < p → u.2 6 g ≤ u.2 6 f :=
  pm_next_l u c p 16 0 40 (-1) rfl (by decide) (Or.inl ⟨rfl, fun f hf => absurd hf (Nat.not_lt_zero f)⟩)
/-- r is the first of the four that the test takes, or -1 -/
def fs (A : Nat → Prop) (r : Int32) : Prop := (r = -1 ∧ ∀ c, c < 4 → ¬ A c) ∨ ∃ c, c < 4 ∧ r = nI c ∧ A c ∧ ∀ d, d < c → ¬ A d
theorem fs_u {A B : Nat → Prop} {r q : Int32} (h : ∀ c, c < 4 → (A c ↔ B c)) (hr : fs A r) (hq : fs B q) : r = q := by
  rcases hr with ⟨rfl, h1⟩ | ⟨c, c1, rfl, c2, c3⟩
  · rcases hq with ⟨rfl, h2⟩ | ⟨d, d1, rfl, d2, d3⟩
    · rfl
    · exact absurd ((h d d1).mpr d2) (h1 d d1)
  · rcases hq with ⟨rfl, h2⟩ | ⟨d, d1, rfl, d2, d3⟩
    · exact absurd ((h c c1).mp c2) (h2 c c1)
    · rcases Nat.lt_trichotomy c d with q | q | q
      · exact absurd ((h c c1).mp c2) (d3 c q)
      · rw [q]
      · exact absurd ((h d d1).mpr d2) (c3 d q)
theorem pt_ff10_l (u : ts_S) (x y : Int32) : ∀ (d j n : Nat), j + d = 4 → d < n → (∀ c, c < j → ¬ (¬ nI c = y ∧ ¬ u.1 3 < u.2 10 c + x)) → ∃ r, dp_firstFitting_10_3 n u x y (nI j) = some (r, u) ∧ fs (fun c => ¬ nI c = y ∧ ¬ u.1 3 < u.2 10 c + x) r := by
  intro d
  induction d with
  | zero =>
    intro j n hj hn hb
    obtain ⟨n, rfl⟩ := pu_nn hn
    obtain rfl : j = 4 := by omega
    refine ⟨-1, ?_, Or.inl ⟨rfl, hb⟩⟩
    show dp_firstFitting_10_3_b (dp_firstFitting_10_3 n) u x y (nI 4) = _
    unfold dp_firstFitting_10_3_b
    rw [if_pos (by decide)]
  | succ d ih =>
    intro j n hj hn hb
    obtain ⟨n, rfl⟩ := pu_nn hn
    have h : j < 4 := by omega
    have e : dp_firstFitting_10_3 (n + 1) u x y (nI j) = dp_firstFitting_10_3_b (dp_firstFitting_10_3 n) u x y (nI j) := rfl
    rw [e]
    unfold dp_firstFitting_10_3_b
    rw [if_neg (pu_4 h)]
    simp only [nI_1, pu_ix h (by decide), pu_cl (show j < 16 by omega)]
    have skip : ¬ (¬ nI j = y ∧ ¬ u.1 3 < u.2 10 j + x) → ∀ c, c < j + 1 → ¬ (¬ nI c = y ∧ ¬ u.1 3 < u.2 10 c + x) := by
      intro hs c hc
      rcases Nat.lt_or_ge c j with q | q
      · exact hb c q
      · obtain rfl : c = j := by omega
        exact hs
    by_cases h1 : nI j = y
    · rw [if_pos h1]
      exact ih (j + 1) n (by omega) (by omega) (skip (fun q => q.1 h1))
    · rw [if_neg h1]
      by_cases h2 : u.1 3 < u.2 10 j + x
      · rw [if_pos h2]
        exact ih (j + 1) n (by omega) (by omega) (skip (fun q => q.2 h2))
      · rw [if_neg h2]
        exact ⟨nI j, rfl, Or.inr ⟨j, h, rfl, ⟨h1, h2⟩, hb⟩⟩
theorem pt_ff10 (u : ts_S) (x y : Int32) : ∃ r, dp_firstFitting_10 u x y = some (r, u) ∧ fs (fun c => ¬ nI c = y ∧ ¬ u.1 3 < u.2 10 c + x) r := pt_ff10_l u x y 4 0 40 rfl (by decide) (fun c hc => absurd hc (Nat.not_lt_zero c))
theorem pt_ff11_l (u : ts_S) (x y : Int32) : ∀ (d j n : Nat), j + d = 4 → d < n → (∀ c, c < j → ¬ (¬ nI c = y ∧ ¬ u.1 3 < u.2 11 c + x)) → ∃ r, dp_firstFitting_11_3 n u x y (nI j) = some (r, u) ∧ fs (fun c => ¬ nI c = y ∧ ¬ u.1 3 < u.2 11 c + x) r := by
  intro d
  induction d with
  | zero =>
    intro j n hj hn hb
    obtain ⟨n, rfl⟩ := pu_nn hn
    obtain rfl : j = 4 := by omega
    refine ⟨-1, ?_, Or.inl ⟨rfl, hb⟩⟩
    show dp_firstFitting_11_3_b (dp_firstFitting_11_3 n) u x y (nI 4) = _
    unfold dp_firstFitting_11_3_b
    rw [if_pos (by decide)]
  | succ d ih =>
    intro j n hj hn hb
    obtain ⟨n, rfl⟩ := pu_nn hn
    have h : j < 4 := by omega
    have e : dp_firstFitting_11_3 (n + 1) u x y (nI j) = dp_firstFitting_11_3_b (dp_firstFitting_11_3 n) u x y (nI j) := rfl
    rw [e]
    unfold dp_firstFitting_11_3_b
    rw [if_neg (pu_4 h)]
    simp only [nI_1, pu_ix h (by decide), pu_cl (show j < 16 by omega)]
    have skip : ¬ (¬ nI j = y ∧ ¬ u.1 3 < u.2 11 j + x) → ∀ c, c < j + 1 → ¬ (¬ nI c = y ∧ ¬ u.1 3 < u.2 11 c + x) := by
      intro hs c hc
      rcases Nat.lt_or_ge c j with q | q
      · exact hb c q
      · obtain rfl : c = j := by omega
        exact hs
    by_cases h1 : nI j = y
    · rw [if_pos h1]
      exact ih (j + 1) n (by omega) (by omega) (skip (fun q => q.1 h1))
    · rw [if_neg h1]
      by_cases h2 : u.1 3 < u.2 11 j + x
      · rw [if_pos h2]
        exact ih (j + 1) n (by omega) (by omega) (skip (fun q => q.2 h2))
      · rw [if_neg h2]
        exact ⟨nI j, rfl, Or.inr ⟨j, h, rfl, ⟨h1, h2⟩, hb⟩⟩
theorem pt_ff11 (u : ts_S) (x y : Int32) : ∃ r, dp_firstFitting_11 u x y = some (r, u) ∧ fs (fun c => ¬ nI c = y ∧ ¬ u.1 3 < u.2 11 c + x) r := pt_ff11_l u x y 4 0 40 rfl (by decide) (fun c hc => absurd hc (Nat.not_lt_zero c))
/-- cartridgeFor: the drive's cartridge where it fits, else the first that does -/
def cf (u : ts_S) (x y r : Int32) : Prop := (¬ u.1 4 = -1 ∧ ¬ u.1 4 = y ∧ ¬ u.1 3 < u.2 10 (u.1 4).toNatClampNeg + x ∧ r = u.1 4) ∨ ((u.1 4 = -1 ∨ u.1 4 = y ∨ u.1 3 < u.2 10 (u.1 4).toNatClampNeg + x) ∧ fs (fun c => ¬ nI c = y ∧ ¬ u.1 3 < u.2 10 c + x) r)
theorem pt_cf (u : ts_S) (x y : Int32) (hh : u.1 4 = -1 ∨ ∃ c, c < 4 ∧ u.1 4 = nI c) : ∃ r, dp_cartridgeFor u x y = some (r, u) ∧ cf u x y r := by
  obtain ⟨r, h1, h2⟩ := pt_ff10 u x y
  unfold dp_cartridgeFor
  rw [h1]
  simp only [ts_b]
  by_cases a : u.1 4 = -1
  · rw [if_pos a]
    exact ⟨r, rfl, Or.inr ⟨Or.inl a, h2⟩⟩
  · rw [if_neg a]
    by_cases b : u.1 4 = y
    · rw [if_pos b]
      exact ⟨r, rfl, Or.inr ⟨Or.inr (Or.inl b), h2⟩⟩
    · rw [if_neg b]
      obtain ⟨c, hc, e⟩ : ∃ c, c < 4 ∧ u.1 4 = nI c := by
        rcases hh with q | q
        · exact absurd q a
        · exact q
      have hix : ∀ t : Option (Int32 × ts_S), ts_ix (u.1 4) 4 t = t := fun t => by rw [e]; exact pu_ix hc (by decide) t
      rw [hix]
      by_cases d : u.1 3 < u.2 10 (u.1 4).toNatClampNeg + x
      · rw [if_pos d]
        exact ⟨r, rfl, Or.inr ⟨Or.inr (Or.inr d), h2⟩⟩
      · rw [if_neg d]
        exact ⟨u.1 4, rfl, Or.inl ⟨a, b, d, rfl⟩⟩
