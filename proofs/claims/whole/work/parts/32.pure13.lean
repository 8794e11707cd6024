/-! pure: serve side by side -/
def gd (l : List Nat) (t : Nat) : Nat := l.getD t 0
theorem gd_e (l : List Nat) {t : Nat} (h : t < l.length) : gd l t = l[t] := by
  unfold gd
  rw [List.getD_eq_getElem?_getD, List.getElem?_eq_getElem h]
  rfl
theorem rk_inj {u : ts_S} {L : Nat} {E N C P : Nat → Nat} (hi : iv u L E N C P) {x y : Nat} (hx : x < 16) (hy : y < 16) (lx : lv u x) (ly : lv u y) (hne : x ≠ y) : rkN (u.1 4) C P x ≠ rkN (u.1 4) C P y := by
  have px := lv_P hi hx lx
  have py := lv_P hi hy ly
  have cx := (hi.2.2.2.2.2.1 x hx lx).1
  have cy := (hi.2.2.2.2.2.1 y hy ly).1
  have d := hi.2.2.2.2.2.2.1 x y hx hy lx ly hne
  by_cases a : nI (C x) = u.1 4
  · by_cases b : nI (C y) = u.1 4
    · rw [rk_h a, rk_h b]
      exact d ((nI_eq (by omega) (by omega)).mp (a.trans b.symm))
    · rw [rk_h a, rk_n b]
      omega
  · by_cases b : nI (C y) = u.1 4
    · rw [rk_n a, rk_h b]
      omega
    · rw [rk_n a, rk_n b]
      intro e
      have hc : C x = C y := by omega
      have := d hc
      omega
theorem wq_rel {u v : ts_S} (h : rel u v) (x : Nat) : wq v x = wq u x := by
  unfold wq
  rw [rel_j h (j := 7) (by decide) (by decide) (by decide) (by decide), rel_j h (j := 2) (by decide) (by decide) (by decide) (by decide)]
theorem sim_serve {u v : ts_S} (h : ri u v) : ∃ r w z, dt_serve u = some (r, w) ∧ dm_serve v = some (r, z) ∧ ri w z := by
  obtain ⟨hr, L, E, N, C, P, hi⟩ := h
  obtain ⟨w1, l, a1, a2, a3, a4, a5, a6, a7⟩ := pt_lws hi
  obtain ⟨w2, b1, b2, b3, b4, b5⟩ := pm_col_l v 16 0 40 v rfl (by decide) rfl (fun _ _ _ => rfl) rfl (fun t ht => absurd ht (by simp))
  have b1 : dm_serve v = dm_serve_54 40 w2 (nI ((List.range 16).filter (wq v)).length) 0 := b1
  generalize hg : (List.range 16).filter (wq v) = g at b1 b5
  have gm : ∀ x, x ∈ g ↔ (x < 16 ∧ wq u x = true) := fun x => by
    rw [← hg, List.mem_filter, List.mem_range, wq_rel hr]
  have gn : g.Nodup := by
    rw [← hg]
    exact List.Pairwise.filter _ List.nodup_range
  have g16 : g.length ≤ 16 := ph 16 g gn (fun x q => ((gm x).mp q).1)
  have hw3 : ∀ x, wq u x = true → u.2 2 x = 3 := fun x q => by
    unfold wq at q
    exact (of_decide_eq_true q).2
  have glv : ∀ x ∈ g, x < 16 ∧ lv u x := fun x q => ⟨((gm x).mp q).1, Or.inr (hw3 x ((gm x).mp q).2)⟩
  have e4 : w2.1 4 = u.1 4 := by rw [b2]; exact rel_k hr (by decide) (by decide)
  have e5 : w2.2 5 = u.2 5 := by rw [b3 5 (by decide) (by decide)]; exact rel_j hr (by decide) (by decide) (by decide) (by decide)
  have e6 : w2.2 6 = u.2 6 := by rw [b3 6 (by decide) (by decide)]; exact rel_j hr (by decide) (by decide) (by decide) (by decide)
  obtain ⟨w3, a, c1, c2⟩ := pm_sort_out hi e4 e5 e6 g16 glv g.length 0 40 w2 (gd g) (by omega) (by omega) ⟨rfl, fun _ _ => rfl, fun t ht => by rw [b5 t ht, gd_e g ht], fun x => ⟨fun q => by
      obtain ⟨t, ht, e⟩ := q
      rw [← e, gd_e g ht]
      exact List.getElem_mem ht, fun q => by
      obtain ⟨t, ht, e⟩ := List.getElem_of_mem q
      exact ⟨t, ht, by rw [gd_e g ht]; exact e⟩⟩, fun s t hs ht e => by
      have e : gd g s = gd g t := e
      rw [gd_e g hs, gd_e g ht] at e
      exact (List.getElem_inj (h₀ := hs) (h₁ := ht) gn).mp e, fun s t hs => absurd hs (Nat.not_lt_zero s)⟩
  obtain ⟨s1, s2', s3, s4, s5, s6⟩ := c2
  have hml : (List.range g.length).map a = l := by
    refine rk_eq (rkN (u.1 4) C P) _ _ ?_ a7 (fun x => ?_)
    · rw [List.pairwise_map]
      refine List.Pairwise.imp_of_mem (fun {s t} hs ht hst => ?_) List.pairwise_lt_range
      rw [List.mem_range] at hs ht
      have hle := s6 s t hs hst ht
      have ls := glv _ ((s4 _).mp ⟨s, hs, rfl⟩)
      have lt := glv _ ((s4 _).mp ⟨t, ht, rfl⟩)
      have hne := rk_inj hi ls.1 lt.1 ls.2 lt.2 (fun e => by
        have := s5 s t hs ht e
        omega)
      omega
    · rw [a6 x, ← gm x, ← s4 x, List.mem_map]
      constructor
      · rintro ⟨t, ht, e⟩
        exact ⟨t, List.mem_range.mp ht, e⟩
      · rintro ⟨t, ht, e⟩
        exact ⟨t, List.mem_range.mpr ht, e⟩
  have hlen : l.length = g.length := by rw [← hml, List.length_map, List.length_range]
  have ag3 : ag (w3.2 9) l := fun t ht => by
    have ht' : t < g.length := by rw [← hlen]; exact ht
    rw [s3 t ht']
    subst hml
    simp
  have ln : l.Nodup := by
    refine List.Pairwise.imp (fun {x y} hxy => ?_) a7
    intro e
    rw [e] at hxy
    omega
  -- the class's side
  have t1 : dt_serve u = dt_serve_29 40 (s7 (zw (w1.2 7) 16) w1) 0 0 := by
    have q := pt_clear_l w1 16 0 40 rfl (by decide)
    have q0 : s7 (zw (w1.2 7) 0) w1 = w1 := s7_self w1
    rw [q0] at q
    unfold dt_serve
    rw [a1]
    exact q
  have t2 : dm_serve v = dm_serve_141 40 w3 (nI l.length) 0 0 := by
    rw [b1, hlen]
    exact c1
  have w17 : w1.2 7 = u.2 7 := a2.2 7 (by decide)
  have hrel : rel (s7 (zw (w1.2 7) 16) w1) w3 := by
    obtain ⟨r1, r2, r3, r4, r5⟩ := hr
    have k4 : (s7 (zw (w1.2 7) 16) w1).1 4 = u.1 4 := a2.1 4 (by decide)
    have k5 : (s7 (zw (w1.2 7) 16) w1).1 5 = u.1 5 := a2.1 5 (by decide)
    have v1 : w3.1 = v.1 := by rw [s1, b2]
    refine ⟨fun k k2 k5 => ?_, fun q => ?_, fun q => ?_, fun j j4 j9 j11 j20 => ?_, fun f i hf hi4 => ?_⟩
    · rw [v1]
      show w1.1 k = v.1 k
      rw [a2.1 k k2]
      exact r1 k k2 k5
    · rw [k5, v1]
      exact r2 (by rw [← k4]; exact q)
    · rw [k5]
      exact r3 (by rw [← k4]; exact q)
    · show (if j = 7 then zw (w1.2 7) 16 else w1.2 j) = w3.2 j
      rw [s2' j j9]
      by_cases q : j = 7
      · rw [if_pos q, q, b4, w17, r4 7 (by decide) (by decide) (by decide) (by decide)]
      · rw [if_neg q, a2.2 j j9, b3 j q j9]
        exact r4 j j4 j9 j11 j20
    · show (if 20 + f = 7 then zw (w1.2 7) 16 else w1.2 (20 + f)) i = w3.2 4 (f * 4 + i)
      rw [if_neg (by omega), a2.2 (20 + f) (by omega), s2' 4 (by decide), b3 4 (by decide) (by decide)]
      exact r5 f i hf hi4
  have hiv : iv (s7 (zw (w1.2 7) 16) w1) L E N C P := by
    have x2 : (s7 (zw (w1.2 7) 16) w1).2 2 = u.2 2 := a2.2 2 (by decide)
    refine iv_sub hi (a2.1 3 (by decide)) ?_ ?_ (a2.2 10 (by decide)) (a2.2 3 (by decide)) (a2.2 5 (by decide)) (a2.2 6 (by decide)) (fun f _ q => ?_) (fun f _ q => ?_) ?_
    · have : (s7 (zw (w1.2 7) 16) w1).1 4 = u.1 4 := a2.1 4 (by decide)
      rw [this]
      exact hi.2.1
    · have : (s7 (zw (w1.2 7) 16) w1).1 5 = u.1 5 := a2.1 5 (by decide)
      rw [this]
      exact hi.2.2.1
    · unfold lv at q ⊢
      rw [x2] at q
      exact q
    · rw [x2] at q
      exact q
    · refine Nat.le_trans (wt_le (w := u.2 7) (fun i => ?_) 16) hi.2.2.2.2.2.2.2
      show zw (w1.2 7) 16 i = u.2 7 i ∨ zw (w1.2 7) 16 i = 0
      rw [w17]
      exact zw_or _ 16 i
  obtain ⟨r, w, z, d1, d2, d3, d4⟩ := sim_run l a5 (fun x q => ((a6 x).mp q).1) ln l.length 0 40 (s7 (zw (w1.2 7) 16) w1) w3 0 (by omega) (by omega) hrel hiv a3 a4 ag3 (fun t ht _ => by
    have x2 : (s7 (zw (w1.2 7) 16) w1).2 2 = u.2 2 := a2.2 2 (by decide)
    rw [x2]
    exact hw3 _ ((a6 _).mp (List.getElem_mem ht)).2)
  exact ⟨r, w, z, by rw [t1]; exact d1, by rw [t2]; exact d2, d3, L, E, N, C, P, d4⟩
