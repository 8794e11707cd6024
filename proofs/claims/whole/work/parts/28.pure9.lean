/-! pure: backUp and lose side by side -/
def dm_ctl (u : ts_S) (x1 x3 : Int32) : Option (Int32 × ts_S) := (if 0 ≤ x3 then (ts_ix x1 16 (ts_ix x3 4 (ts_ix x1 16 (ts_ix x3 4 (ts_ix x1 16 (ts_ix x3 4 (ts_ix x1 16 (ts_ix x1 16 (ts_b (dm_move (ts_a 10 x3.toNatClampNeg (((ts_a 6 x1.toNatClampNeg ((ts_a 5 x1.toNatClampNeg x3 u).2 10 x3.toNatClampNeg) (ts_a 5 x1.toNatClampNeg x3 u)).2 10 x3.toNatClampNeg) + ((ts_a 6 x1.toNatClampNeg ((ts_a 5 x1.toNatClampNeg x3 u).2 10 x3.toNatClampNeg) (ts_a 5 x1.toNatClampNeg x3 u)).2 3 x1.toNatClampNeg)) (ts_a 6 x1.toNatClampNeg ((ts_a 5 x1.toNatClampNeg x3 u).2 10 x3.toNatClampNeg) (ts_a 5 x1.toNatClampNeg x3 u))) x3 ((ts_a 10 x3.toNatClampNeg (((ts_a 6 x1.toNatClampNeg ((ts_a 5 x1.toNatClampNeg x3 u).2 10 x3.toNatClampNeg) (ts_a 5 x1.toNatClampNeg x3 u)).2 10 x3.toNatClampNeg) + ((ts_a 6 x1.toNatClampNeg ((ts_a 5 x1.toNatClampNeg x3 u).2 10 x3.toNatClampNeg) (ts_a 5 x1.toNatClampNeg x3 u)).2 3 x1.toNatClampNeg)) (ts_a 6 x1.toNatClampNeg ((ts_a 5 x1.toNatClampNeg x3 u).2 10 x3.toNatClampNeg) (ts_a 5 x1.toNatClampNeg x3 u))).2 6 x1.toNatClampNeg) ((ts_a 10 x3.toNatClampNeg (((ts_a 6 x1.toNatClampNeg ((ts_a 5 x1.toNatClampNeg x3 u).2 10 x3.toNatClampNeg) (ts_a 5 x1.toNatClampNeg x3 u)).2 10 x3.toNatClampNeg) + ((ts_a 6 x1.toNatClampNeg ((ts_a 5 x1.toNatClampNeg x3 u).2 10 x3.toNatClampNeg) (ts_a 5 x1.toNatClampNeg x3 u)).2 3 x1.toNatClampNeg)) (ts_a 6 x1.toNatClampNeg ((ts_a 5 x1.toNatClampNeg x3 u).2 10 x3.toNatClampNeg) (ts_a 5 x1.toNatClampNeg x3 u))).2 3 x1.toNatClampNeg)) fun _ u152 => (some (1, u152))))))))))) else (some (0, u)))
theorem ctl_b (K : ts_S → Int32 → Int32 → Int32 → Int32 → Option (Int32 × ts_S)) (u : ts_S) (x y b : Int32) : dm_copy_5_b K u x y b (-1) = (if u.1 4 < 0 then dm_ctl u x b else if u.1 4 = y then dm_ctl u x b else ts_ix (u.1 4) 4 (ts_ix x 16 (if u.1 3 < u.2 10 (u.1 4).toNatClampNeg + u.2 3 x.toNatClampNeg then dm_ctl u x b else dm_ctl u x (u.1 4)))) := by
  unfold dm_copy_5_b
  rw [if_pos (by decide)]
  rfl
theorem ctl_0 (u : ts_S) (x : Int32) : dm_ctl u x (-1) = some (0, u) := by
  unfold dm_ctl
  rw [if_neg (by decide)]
theorem ctl_1 (u : ts_S) {f c e n : Nat} (hf : f < 16) (hc : c < 4) (he : u.2 10 c = nI e) (hn : u.2 3 f = nI n) {d : Int32} (hd : dm_move (ts_a 10 c (nI (e + n)) (ts_a 6 f (nI e) (ts_a 5 f (nI c) u))) (nI c) (nI e) (nI n) = some (0, pc u f c e n d)) : dm_ctl u (nI f) (nI c) = some (1, pc u f c e n d) := by
  unfold dm_ctl
  rw [if_pos (nI_pos' (by omega))]
  simp only [pu_ix hf (by decide), pu_cl hf, pu_ix hc (by decide), pu_cl (show c < 16 by omega)]
  have a1 : (ts_a 5 f (nI c) u).2 10 c = nI e := he
  rw [a1]
  have a2 : (ts_a 6 f (nI e) (ts_a 5 f (nI c) u)).2 10 c = nI e := he
  have a3 : (ts_a 6 f (nI e) (ts_a 5 f (nI c) u)).2 3 f = nI n := hn
  rw [a2, a3, nI_add]
  have a4 : (ts_a 10 c (nI (e + n)) (ts_a 6 f (nI e) (ts_a 5 f (nI c) u))).2 6 f = nI e := if_pos rfl
  have a5 : (ts_a 10 c (nI (e + n)) (ts_a 6 f (nI e) (ts_a 5 f (nI c) u))).2 3 f = nI n := hn
  rw [a4, a5, hd]
  rfl
/-- choosing a cartridge and putting the copy there, on both sides -/
theorem sim_copy {u v : ts_S} (h : rel u v) {L : Nat} {E N C P : Nat → Nat} (hi : iv u L E N C P) {f : Nat} (hf : f < 16) (y : Int32) :
    (dp_cartridgeFor u (u.2 3 f) y = some (-1, u) ∧ dm_copy v (nI f) y = some (0, v) ∧ ∀ c, c < 4 → ¬ nI c = y → ¬ E c + N f ≤ L) ∨ ∃ c d, c < 4 ∧ ¬ nI c = y ∧ E c + N f ≤ L ∧ cf u (u.2 3 f) y (nI c) ∧ dp_cartridgeFor u (u.2 3 f) y = some (nI c, u) ∧ dt_putCopy u (nI f) (nI c) = some (0, pc u f c (E c) (N f) d) ∧ dm_copy v (nI f) y = some (1, pc v f c (E c) (N f) d) ∧ rel (pc u f c (E c) (N f) d) (pc v f c (E c) (N f) d) := by
  have e3 := rel_j h (j := 3) (by decide) (by decide) (by decide) (by decide)
  have e10 := rel_j h (j := 10) (by decide) (by decide) (by decide) (by decide)
  have k4 := rel_k h (k := 4) (by decide) (by decide)
  have k3 := rel_k h (k := 3) (by decide) (by decide)
  have hN := (hi.2.2.2.2.1 f hf).2.1
  have hN4 := (hi.2.2.2.2.1 f hf).1
  have hL := hi.1
  have fit : ∀ c, c < 4 → (¬ u.1 3 < u.2 10 c + u.2 3 f ↔ E c + N f ≤ L) := fun c hc => by
    have hE := hi.2.2.2.1 c hc
    rw [hL.2, hE.2, hN, nI_add]
    constructor
    · intro q
      exact Nat.not_lt.mp (fun z => q (nI_lt z (by omega)))
    · intro q
      exact nI_nlt q (by omega)
  obtain ⟨r, r1, r2⟩ := pt_cf u (u.2 3 f) y hi.2.1
  obtain ⟨b, K, b1, b2⟩ := pm_best_l v hf y 4 40 (-1) (Nat.le_refl 4) (by decide) (Or.inl ⟨rfl, fun c h1 h2 => absurd h1 (by omega)⟩)
  have b3 : dm_copy v (nI f) y = dm_copy_5_b K v (nI f) y b (-1) := b1
  rw [ctl_b, pu_cl hf, pu_ix hf (by decide), k3, k4, e3, e10] at b3
  rw [k3, k4, e3, e10] at b2
  have put : ∀ c, c < 4 → ¬ nI c = y → E c + N f ≤ L → cf u (u.2 3 f) y (nI c) → dp_cartridgeFor u (u.2 3 f) y = some (nI c, u) → dm_copy v (nI f) y = dm_ctl v (nI f) (nI c) → ∃ c d, c < 4 ∧ ¬ nI c = y ∧ E c + N f ≤ L ∧ cf u (u.2 3 f) y (nI c) ∧ dp_cartridgeFor u (u.2 3 f) y = some (nI c, u) ∧ dt_putCopy u (nI f) (nI c) = some (0, pc u f c (E c) (N f) d) ∧ dm_copy v (nI f) y = some (1, pc v f c (E c) (N f) d) ∧ rel (pc u f c (E c) (N f) d) (pc v f c (E c) (N f) d) := by
    intro c hc hcy hfit hcf hT hM
    have hr5 : rel (ts_a 5 f (nI c) u) (ts_a 10 c (nI (E c + N f)) (ts_a 6 f (nI (E c)) (ts_a 5 f (nI c) v))) ∨ True := Or.inr trivial
    have hq1 := pt_pass (ts_a 5 f (nI c) u) (nI c) (nI (E c)) (nI (N f))
    have hq2 := pm_move (ts_a 10 c (nI (E c + N f)) (ts_a 6 f (nI (E c)) (ts_a 5 f (nI c) v))) (nI c) (nI (E c)) (nI (N f))
    have m1 : mvh (ts_a 5 f (nI c) u) (nI c) = mvh u (nI c) := rfl
    have m2 : mvh (ts_a 10 c (nI (E c + N f)) (ts_a 6 f (nI (E c)) (ts_a 5 f (nI c) v))) (nI c) = mvh v (nI c) := rfl
    have hc1 : ¬ nI c = -1 := pu_m1 (by omega)
    have hE := hi.2.2.2.1 c hc
    obtain ⟨a, ha, ea⟩ : ∃ a, a ≤ 24 ∧ mvh u (nI c) = nI a := by
      unfold mvh
      by_cases q : u.1 4 = nI c
      · rw [if_pos q]; exact hi.2.2.1
      · rw [if_neg q]; exact ⟨0, by omega, rfl⟩
    rw [m1, ea, pu_dist (by omega) (by omega)] at hq1
    rw [m2, ← rel_mvh h (nI c) hc1, ea] at hq2
    refine ⟨c, _, hc, hcy, hfit, hcf, hT, pt_put hi hf hc hq1, ?_, rel_pc h _ hc⟩
    rw [hM]
    exact ctl_1 v hf hc (by rw [e10]; exact hE.2) (by rw [e3]; exact hN) hq2
  rcases r2 with ⟨a1, a2, a3, rfl⟩ | ⟨a1, a2⟩
  · -- the drive's own
    obtain ⟨c, hc, ec⟩ : ∃ c, c < 4 ∧ u.1 4 = nI c := by
      rcases hi.2.1 with q | q
      · exact absurd q a1
      · exact q
    rw [ec] at a1 a2 a3 r1 b3
    rw [pu_cl (show c < 16 by omega)] at a3
    rw [if_neg (nI_pos (by omega)), if_neg a2, pu_ix hc (by decide), pu_cl (show c < 16 by omega), if_neg a3] at b3
    refine Or.inr (put c hc a2 ((fit c hc).mp a3) (Or.inl ⟨?_, ?_, ?_, ?_⟩) r1 b3)
    · rw [ec]; exact a1
    · rw [ec]; exact a2
    · rw [ec, pu_cl (show c < 16 by omega)]; exact a3
    · rw [ec]
  · -- the first that fits
    have same : ∀ c, c < 4 → ((¬ nI c = y ∧ ¬ u.1 3 < u.2 10 c + u.2 3 f) ↔ (¬ nI c = y ∧ ¬ nI c = u.1 4 ∧ ¬ u.1 3 < u.2 10 c + u.2 3 f)) := fun c hc => by
      constructor
      · rintro ⟨q1, q2⟩
        refine ⟨q1, fun q => ?_, q2⟩
        rcases a1 with z | z | z
        · rw [z] at q
          exact absurd q (pu_m1 (by omega))
        · rw [z] at q
          exact q1 q
        · rw [← q, pu_cl (show c < 16 by omega)] at z
          exact q2 z
      · rintro ⟨q1, -, q2⟩
        exact ⟨q1, q2⟩
    have hb : r = b := fs_u same a2 b2
    subst hb
    have b4 : dm_copy v (nI f) y = dm_ctl v (nI f) r := by
      rw [b3]
      rcases hi.2.1 with q | ⟨c, hc, q⟩
      · rw [if_pos (by rw [q]; decide)]
      · rw [if_neg (by rw [q]; exact nI_pos (by omega))]
        rcases a1 with z | z | z
        · rw [q] at z
          exact absurd z (pu_m1 (by omega))
        · rw [if_pos z]
        · by_cases w : u.1 4 = y
          · rw [if_pos w]
          · rw [if_neg w, q, pu_ix hc (by decide), ← q, if_pos z]
    rcases a2 with ⟨z1, z2⟩ | ⟨c, c1, c2, c3, c4⟩
    · subst z1
      exact Or.inl ⟨r1, by rw [b4]; exact ctl_0 v _, fun c hc hcy q => z2 c hc ⟨hcy, (fit c hc).mpr q⟩⟩
    · subst c2
      exact Or.inr (put c c1 c3.1 ((fit c c1).mp c3.2) (Or.inr ⟨a1, Or.inr ⟨c, c1, rfl, c3, c4⟩⟩) r1 b4)
theorem sim_backUp {u v : ts_S} (h : ri u v) : ∃ r w z, dt_backUp u = some (r, w) ∧ dm_backUp v = some (r, z) ∧ ri w z := by
  obtain ⟨hr, L, E, N, C, P, hi⟩ := h
  have hri : ri u v := ⟨hr, L, E, N, C, P, hi⟩
  have e2 := rel_j hr (j := 2) (by decide) (by decide) (by decide) (by decide)
  have e8 := rel_j hr (j := 8) (by decide) (by decide) (by decide) (by decide)
  unfold dt_backUp dm_backUp
  rw [pt_old, pm_old, e2, e8]
  simp only [ts_b]
  rcases od_in (u.2 2) (u.2 8) 1 16 with q | ⟨f, hf, q, hs⟩
  · rw [q, if_pos rfl, if_neg (by decide)]
    exact ⟨_, _, _, rfl, rfl, hri⟩
  · rw [q, if_neg (pu_m1 (by omega)), if_pos (nI_pos' (by omega))]
    simp only [pu_ix hf (by decide), pu_cl hf]
    rcases sim_copy hr hi hf (-1) with ⟨t1, t2, -⟩ | ⟨c, d, hc, -, hfit, -, t1, t2, t3, t4⟩
    · rw [t1, t2]
      exact ⟨_, _, _, rfl, rfl, hri⟩
    · rw [t1, t3]
      simp only []
      rw [if_neg (pu_m1 (by omega)), if_neg pu_10, t2]
      refine ⟨_, _, _, rfl, rfl, rel_a t4 f 2 (by decide) (by decide), L, va_up E c (E c + N f), N, va_up C f c, va_up P f (E c), ?_⟩
      rw [a_s2]
      refine iv_pc hi d hf hc (by rw [hs]; decide) hfit (fun g _ hg z => ?_) (fun g _ z => ?_)
      · have e : upd ((pc u f c (E c) (N f) d).2 2) f 2 g = u.2 2 g := if_neg hg
        rw [e] at z
        exact z
      · by_cases e : g = f
        · rw [e, hs]; decide
        · have e' : upd ((pc u f c (E c) (N f) d).2 2) f 2 g = u.2 2 g := if_neg e
          rw [e'] at z
          exact z
/-- lose: the states that come of it, file by file -/
theorem sim_lose_l {c : Nat} (hc : c < 4) : ∀ (d j k : Nat) (u v : ts_S) (a : Int32), j + d = 16 → d < k → rel u v → ∃ st a' K K', dt_lose_13 k u (nI c) a (nI j) = dt_lose_13_b K (s2 st u) (nI c) a' (nI 16) ∧ dm_lose_14 k v (nI c) a (nI j) = dm_lose_14_b K' (s2 st v) (nI c) a' (nI 16) ∧ ∀ f, (f < j ∨ 16 ≤ f → st f = u.2 2 f) ∧ (j ≤ f → f < 16 → (lc u (nI c) f → st f = 4 ∨ st f = 1) ∧ (¬ lc u (nI c) f → st f = u.2 2 f)) := by
  intro d
  induction d with
  | zero =>
    intro j k u v a hj hk hr
    obtain ⟨k, rfl⟩ := pu_nn hk
    obtain rfl : j = 16 := by omega
    refine ⟨u.2 2, a, dt_lose_13 k, dm_lose_14 k, by rw [s2_self]; rfl, ?_, fun f => ⟨fun _ => rfl, fun h1 h2 => absurd h1 (by omega)⟩⟩
    have e2 := rel_j hr (j := 2) (by decide) (by decide) (by decide) (by decide)
    rw [← e2, s2_self]
    rfl
  | succ d ih =>
    intro j k u v a hj hk hr
    obtain ⟨k, rfl⟩ := pu_nn hk
    have h : j < 16 := by omega
    have e2 := rel_j hr (j := 2) (by decide) (by decide) (by decide) (by decide)
    have e5 := rel_j hr (j := 5) (by decide) (by decide) (by decide) (by decide)
    have eT : dt_lose_13 (k + 1) u (nI c) a (nI j) = dt_lose_13_b (dt_lose_13 k) u (nI c) a (nI j) := rfl
    have eM : dm_lose_14 (k + 1) v (nI c) a (nI j) = dm_lose_14_b (dm_lose_14 k) v (nI c) a (nI j) := rfl
    have cont : ∀ (x : Int32) (a' : Int32), (x = 4 ∨ x = 1) → lc u (nI c) j → dt_lose_13 (k + 1) u (nI c) a (nI j) = dt_lose_13 k (ts_a 2 j x u) (nI c) a' (nI (j + 1)) → dm_lose_14 (k + 1) v (nI c) a (nI j) = dm_lose_14 k (ts_a 2 j x v) (nI c) a' (nI (j + 1)) → ∃ st a' K K', dt_lose_13 (k + 1) u (nI c) a (nI j) = dt_lose_13_b K (s2 st u) (nI c) a' (nI 16) ∧ dm_lose_14 (k + 1) v (nI c) a (nI j) = dm_lose_14_b K' (s2 st v) (nI c) a' (nI 16) ∧ ∀ f, (f < j ∨ 16 ≤ f → st f = u.2 2 f) ∧ (j ≤ f → f < 16 → (lc u (nI c) f → st f = 4 ∨ st f = 1) ∧ (¬ lc u (nI c) f → st f = u.2 2 f)) := by
      intro x a' hx hl h1 h2
      obtain ⟨st, a2, K, K', i1, i2, i3⟩ := ih (j + 1) k (ts_a 2 j x u) (ts_a 2 j x v) a' (by omega) (by omega) (rel_a hr j x (by decide) (by decide))
      refine ⟨st, a2, K, K', ?_, ?_, fun f => ⟨fun q => ?_, fun q1 q2 => ?_⟩⟩
      · rw [h1, i1, a_s2, s2_s2]
      · rw [h2, i2, a_s2, s2_s2]
      · rw [(i3 f).1 (by omega)]
        exact if_neg (by omega)
      · by_cases e : f = j
        · have : st f = x := by
            rw [(i3 f).1 (by omega)]
            exact if_pos e
          rw [this]
          exact ⟨fun _ => hx, fun q => absurd (by rw [e]; exact hl) q⟩
        · have hlc : lc (ts_a 2 j x u) (nI c) f ↔ lc u (nI c) f := by
            have z2 : (ts_a 2 j x u).2 2 f = u.2 2 f := if_neg e
            unfold lc
            rw [z2]
            exact Iff.rfl
          have z2 : (ts_a 2 j x u).2 2 f = u.2 2 f := if_neg e
          obtain ⟨y1, y2⟩ := (i3 f).2 (by omega) q2
          exact ⟨fun q => y1 (hlc.mpr q), fun q => by rw [y2 (fun w => q (hlc.mp w)), z2]⟩
    have skip : ¬ lc u (nI c) j → dt_lose_13 (k + 1) u (nI c) a (nI j) = dt_lose_13 k u (nI c) a (nI (j + 1)) → dm_lose_14 (k + 1) v (nI c) a (nI j) = dm_lose_14 k v (nI c) a (nI (j + 1)) → ∃ st a' K K', dt_lose_13 (k + 1) u (nI c) a (nI j) = dt_lose_13_b K (s2 st u) (nI c) a' (nI 16) ∧ dm_lose_14 (k + 1) v (nI c) a (nI j) = dm_lose_14_b K' (s2 st v) (nI c) a' (nI 16) ∧ ∀ f, (f < j ∨ 16 ≤ f → st f = u.2 2 f) ∧ (j ≤ f → f < 16 → (lc u (nI c) f → st f = 4 ∨ st f = 1) ∧ (¬ lc u (nI c) f → st f = u.2 2 f)) := by
      intro hl h1 h2
      obtain ⟨st, a2, K, K', i1, i2, i3⟩ := ih (j + 1) k u v a (by omega) (by omega) hr
      refine ⟨st, a2, K, K', by rw [h1, i1], by rw [h2, i2], fun f => ⟨fun q => (i3 f).1 (by omega), fun q1 q2 => ?_⟩⟩
      by_cases e : f = j
      · rw [e]
        exact ⟨fun q => absurd q hl, fun _ => (i3 j).1 (by omega)⟩
      · exact (i3 f).2 (by omega) q2
    by_cases hl : lc u (nI c) j
    · have hT : dt_lose_13 (k + 1) u (nI c) a (nI j) = (if u.2 2 j = 3 then dt_lose_13 k (ts_a 2 j 4 u) (nI c) (a + 1) (nI (j + 1)) else dt_lose_13 k (ts_a 2 j 1 u) (nI c) a (nI (j + 1))) := by
        rw [eT]
        unfold dt_lose_13_b
        rw [if_neg (pu_16 h), (pt_copyOn u (nI c) h).1 hl]
        simp only [ts_b, pu_ix h (by decide), pu_cl h, nI_1]
        rw [if_neg (by decide)]
      have hM : dm_lose_14 (k + 1) v (nI c) a (nI j) = (if u.2 2 j = 3 then dm_lose_14 k (ts_a 2 j 4 v) (nI c) (a + 1) (nI (j + 1)) else dm_lose_14 k (ts_a 2 j 1 v) (nI c) a (nI (j + 1))) := by
        rw [eM]
        unfold dm_lose_14_b
        rw [if_neg (pu_16 h), pm_copied v h]
        simp only [ts_b, pu_ix h (by decide), pu_cl h, nI_1, e2, e5]
        rw [if_pos hl.1, if_neg (by decide), if_pos hl.2]
        by_cases q : u.2 2 j = 3
        · rw [if_pos q, if_pos q, if_pos q]
        · rw [if_neg q, if_neg q, if_neg q]
      by_cases q : u.2 2 j = 3
      · rw [if_pos q] at hT hM
        exact cont 4 (a + 1) (Or.inl rfl) hl hT hM
      · rw [if_neg q] at hT hM
        exact cont 1 a (Or.inr rfl) hl hT hM
    · refine skip hl ?_ ?_
      · rw [eT]
        unfold dt_lose_13_b
        rw [if_neg (pu_16 h), (pt_copyOn u (nI c) h).2 hl]
        simp only [ts_b, nI_1]
        rw [if_pos trivial]
      · rw [eM]
        unfold dm_lose_14_b
        rw [if_neg (pu_16 h), pm_copied v h]
        simp only [ts_b, pu_ix h (by decide), pu_cl h, nI_1, e2, e5]
        by_cases q : u.2 2 j = 2 ∨ u.2 2 j = 3
        · rw [if_pos q, if_neg (by decide), if_neg (fun z => hl ⟨q, z⟩)]
        · rw [if_neg q, if_pos rfl]
theorem tl_T (K : ts_S → Int32 → Int32 → Int32 → Option (Int32 × ts_S)) (w : ts_S) {c : Nat} (hc : c < 4) {a : Int32} : dt_lose_13_b K w (nI c) a (nI 16) = (if w.1 4 = nI c then some (a, ts_p 5 0 (ts_p 4 (-1) (ts_a 10 c 0 w))) else some (a, ts_a 10 c 0 w)) := by
  unfold dt_lose_13_b dp_replace
  rw [if_pos (by decide), pu_ix hc (by decide), pu_cl (show c < 16 by omega)]
  have e : (ts_a 10 c 0 w).1 4 = w.1 4 := rfl
  rw [e]
  by_cases q : w.1 4 = nI c
  · rw [if_pos q, if_pos q, ts_bs]
  · rw [if_neg q, if_neg q, ts_bs]
theorem tl_M (K : ts_S → Int32 → Int32 → Int32 → Option (Int32 × ts_S)) (w : ts_S) {c : Nat} (hc : c < 4) {a : Int32} : dm_lose_14_b K w (nI c) a (nI 16) = (if w.1 4 = nI c then some (a, ts_p 4 (-1) (ts_a 10 c 0 w)) else some (a, ts_a 10 c 0 w)) := by
  unfold dm_lose_14_b
  rw [if_pos (by decide), pu_ix hc (by decide), pu_cl (show c < 16 by omega)]
  have e : (ts_a 10 c 0 w).1 4 = w.1 4 := rfl
  rw [e]
theorem sim_lose {u v : ts_S} (h : ri u v) (x : Int32) : ∃ r w z, dt_lose u x = some (r, w) ∧ dm_lose v x = some (r, z) ∧ ri w z := by
  obtain ⟨hr, L, E, N, C, P, hi⟩ := h
  have hri : ri u v := ⟨hr, L, E, N, C, P, hi⟩
  unfold dt_lose dm_lose
  rcases pk_ix x (n := 4) (by decide) with q | q | ⟨c, hc, rfl⟩
  · rw [pt_isC0 u (Or.inl q), pm_in0 v (Or.inl q)]
    exact ⟨_, _, _, rfl, rfl, hri⟩
  · rw [pt_isC0 u (Or.inr q), pm_in0 v (y := 4) (Or.inr q)]
    exact ⟨_, _, _, rfl, rfl, hri⟩
  · rw [pt_isC1 u hc, pm_inC v hc]
    simp only [ts_b]
    rw [if_neg pu_10, if_neg pu_10]
    obtain ⟨st, a', K, K', t1, t2, t3⟩ := sim_lose_l hc 16 0 40 u v 0 rfl (by decide) hr
    have t1 : dt_lose_13 40 u (nI c) 0 0 = dt_lose_13_b K (s2 st u) (nI c) a' (nI 16) := t1
    have t2 : dm_lose_14 40 v (nI c) 0 0 = dm_lose_14_b K' (s2 st v) (nI c) a' (nI 16) := t2
    rw [t1, t2, tl_T K _ hc, tl_M K' _ hc]
    have dead : ∀ f, f < 16 → (st f = 2 ∨ st f = 3) → lv u f ∧ C f ≠ c := fun f hf q => by
      obtain ⟨y1, y2⟩ := (t3 f).2 (Nat.zero_le f) hf
      by_cases l : lc u (nI c) f
      · rcases y1 l with z | z <;> rw [z] at q <;> rcases q with q | q <;> exact absurd q (by decide)
      · rw [y2 l] at q
        refine ⟨q, fun e => l ⟨q, ?_⟩⟩
        rw [(hi.2.2.2.2.2.1 f hf q).2.1, e]
    have nz : ∀ f, f < 16 → ¬ st f = 0 → ¬ u.2 2 f = 0 := fun f hf q => by
      obtain ⟨y1, y2⟩ := (t3 f).2 (Nat.zero_le f) hf
      by_cases l : lc u (nI c) f
      · rcases l.1 with z | z <;> rw [z] <;> decide
      · rw [y2 l] at q
        exact q
    have Ec : ∀ k, k ≠ c → va_up E c 0 k = E k := fun k q => if_neg q
    obtain ⟨i1, i2, i3, i4, i5, i6, i7, i8⟩ := hi
    have main : ∀ w : ts_S, w.1 3 = u.1 3 → (w.1 4 = -1 ∨ ∃ c, c < 4 ∧ w.1 4 = nI c) → (∃ h, h ≤ 24 ∧ w.1 5 = nI h) → w.2 = (ts_a 10 c 0 (s2 st u)).2 → iv w L (va_up E c 0) N C P := by
      intro w w3 w4 w5 w2
      refine ⟨⟨i1.1, by rw [w3]; exact i1.2⟩, w4, w5, fun k hk => ?_, fun g hg => ?_, fun g hg q => ?_, fun g g' hg hg' q q' => ?_, ?_⟩
      · rw [w2]
        show va_up E c 0 k ≤ L ∧ upd (u.2 10) c 0 k = nI (va_up E c 0 k)
        by_cases z : k = c
        · have e1 : va_up E c 0 k = 0 := if_pos z
          have e2 : upd (u.2 10) c 0 k = 0 := if_pos z
          rw [e1, e2]
          exact ⟨Nat.zero_le L, rfl⟩
        · have e2 : upd (u.2 10) c 0 k = u.2 10 k := if_neg z
          rw [Ec k z, e2]
          exact i4 k hk
      · rw [w2]
        exact ⟨(i5 g hg).1, (i5 g hg).2.1, fun z => (i5 g hg).2.2 (nz g hg z)⟩
      · unfold lv at q
        rw [w2] at q ⊢
        obtain ⟨l, hne⟩ := dead g hg q
        rw [Ec _ hne]
        exact i6 g hg l
      · unfold lv at q q'
        rw [w2] at q q'
        exact i7 g g' hg hg' (dead g hg q).1 (dead g' hg' q').1
      · rw [w2]
        exact i8
    have hr2 : rel (ts_a 10 c 0 (s2 st u)) (ts_a 10 c 0 (s2 st v)) := rel_a (rel_s2 hr st) c 0 (by decide) (by decide)
    have k4 : (s2 st v).1 4 = (s2 st u).1 4 := rel_k hr2 (by decide) (by decide)
    rw [k4]
    by_cases q : (s2 st u).1 4 = nI c
    · rw [if_pos q, if_pos q]
      refine ⟨_, _, _, rfl, rfl, ?_, L, va_up E c 0, N, C, P, main _ rfl (Or.inl rfl) ⟨0, by omega, rfl⟩ rfl⟩
      obtain ⟨a, b, c', d', e⟩ := hr2
      refine ⟨fun k k2 k5 => ?_, fun z => absurd rfl z, fun _ => rfl, d', e⟩
      show (if k = 5 then (0 : Int32) else (if k = 4 then (-1 : Int32) else (ts_a 10 c 0 (s2 st u)).1 k)) = (if k = 4 then (-1 : Int32) else (ts_a 10 c 0 (s2 st v)).1 k)
      rw [if_neg k5]
      by_cases z : k = 4
      · rw [if_pos z, if_pos z]
      · rw [if_neg z, if_neg z, a k k2 k5]
    · rw [if_neg q, if_neg q]
      exact ⟨_, _, _, rfl, rfl, hr2, L, va_up E c 0, N, C, P, main _ rfl i2 i3 rfl⟩
