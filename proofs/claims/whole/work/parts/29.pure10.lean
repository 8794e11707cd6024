/-! pure: the files listed for serve and empty -/
theorem ph : ∀ (n : Nat) (l : List Nat), l.Nodup → (∀ x ∈ l, x < n) → l.length ≤ n := by
  intro n
  induction n with
  | zero =>
    intro l _ h
    cases l with
    | nil => exact Nat.le_refl 0
    | cons a t => exact absurd (h a List.mem_cons_self) (Nat.not_lt_zero a)
  | succ n ih =>
    intro l hn h
    by_cases q : n ∈ l
    · have h1 := ih (l.erase n) (hn.erase n) (fun x hx => by
        have h2 := (hn.mem_erase_iff).mp hx
        have := h x h2.2
        omega)
      have h2 := List.length_erase_of_mem q
      omega
    · have h1 := ih l hn (fun x hx => by
        have := h x hx
        have : x ≠ n := fun e => q (e ▸ hx)
        omega)
      omega
def ag (a : Nat → Int32) (l : List Nat) : Prop := ∀ (i : Nat) (h : i < l.length), a i = nI (l[i]'h)
theorem ag_push {a : Nat → Int32} {l : List Nat} (h : ag a l) (f : Nat) : ag (upd a l.length (nI f)) (l ++ [f]) := by
  intro i hi
  rw [List.getElem_append]
  by_cases q : i < l.length
  · rw [dif_pos q]
    have e : upd a l.length (nI f) i = a i := if_neg (by omega)
    rw [e]
    exact h i q
  · rw [dif_neg q]
    have e1 : i = l.length := by
      rw [List.length_append, List.length_singleton] at hi
      omega
    have e : upd a l.length (nI f) i = nI f := if_pos e1
    rw [e]
    simp
/-- the same state but for what is listed -/
def ex (u w : ts_S) : Prop := (∀ k, k ≠ 2 → w.1 k = u.1 k) ∧ ∀ j, j ≠ 9 → w.2 j = u.2 j
theorem ex_rf (u : ts_S) : ex u u := ⟨fun _ _ => rfl, fun _ _ => rfl⟩
theorem ex_p {u w : ts_S} (h : ex u w) (x : Int32) : ex u (ts_p 2 x w) := ⟨fun k hk => by show (if k = 2 then x else w.1 k) = u.1 k; rw [if_neg hk]; exact h.1 k hk, h.2⟩
theorem ex_a {u w : ts_S} (h : ex u w) (i : Nat) (x : Int32) : ex u (ts_a 9 i x w) := ⟨h.1, fun j hj => by show (if j = 9 then _ else w.2 j) = u.2 j; rw [if_neg hj]; exact h.2 j hj⟩
theorem ex_lc {u w : ts_S} (h : ex u w) (c : Int32) (f : Nat) : lc w c f ↔ lc u c f := by
  unfold lc
  rw [h.2 2 (by decide), h.2 5 (by decide)]
theorem lc_C {u : ts_S} {L : Nat} {E N C P : Nat → Nat} (hi : iv u L E N C P) {c f : Nat} (hf : f < 16) (hc : c < 4) : lc u (nI c) f ↔ (lv u f ∧ C f = c) := by
  constructor
  · rintro ⟨h1, h2⟩
    refine ⟨h1, ?_⟩
    obtain ⟨c1, c2, -⟩ := hi.2.2.2.2.2.1 f hf h1
    rw [c2] at h2
    exact (nI_eq (by omega) (by omega)).mp h2
  · rintro ⟨h1, h2⟩
    refine ⟨h1, ?_⟩
    rw [(hi.2.2.2.2.2.1 f hf h1).2.1, h2]
theorem lv_P {u : ts_S} {L : Nat} {E N C P : Nat → Nat} (hi : iv u L E N C P) {f : Nat} (hf : f < 16) (h : lv u f) : P f < L ∧ L ≤ 20 := by
  obtain ⟨c1, c2, c3, c4⟩ := hi.2.2.2.2.2.1 f hf h
  have n1 := (hi.2.2.2.2.1 f hf).2.2 (by rcases h with h | h <;> rw [h] <;> decide)
  have e1 := (hi.2.2.2.1 (C f) c1).1
  exact ⟨by omega, hi.1.1⟩
/-- listing the live copies on c from the place p on -/
theorem pt_list_l {u : ts_S} {L : Nat} {E N C P : Nat → Nat} (hi : iv u L E N C P) {c : Nat} (hc : c < 4) : ∀ (d p k : Nat) (w : ts_S) (l : List Nat), p + d = L → d < k → ex u w → w.1 2 = nI l.length → ag (w.2 9) l → l.Nodup → (∀ x ∈ l, x < 16 ∧ ¬ (lv u x ∧ C x = c ∧ p ≤ P x)) →
    ∃ w' l', dt_listCopiesOn_2 k w (nI c) (nI p) = some (0, w') ∧ ex u w' ∧ w'.1 2 = nI (l ++ l').length ∧ ag (w'.2 9) (l ++ l') ∧ (l ++ l').Nodup ∧ (∀ x, x ∈ l' ↔ (x < 16 ∧ lv u x ∧ C x = c ∧ p ≤ P x)) ∧ l'.Pairwise (fun x y => P x < P y) := by
  intro d
  induction d with
  | zero =>
    intro p k w l hp hk hx h2 h9 hn hl
    obtain ⟨k, rfl⟩ := pu_nn hk
    refine ⟨w, [], ?_, hx, by rw [List.append_nil]; exact h2, by rw [List.append_nil]; exact h9, by rw [List.append_nil]; exact hn, fun x => ⟨fun h => (by cases h), fun h => ?_⟩, List.Pairwise.nil⟩
    · show dt_listCopiesOn_2_b (dt_listCopiesOn_2 k) w (nI c) (nI p) = _
      unfold dt_listCopiesOn_2_b
      rw [hx.1 3 (by decide), hi.1.2, if_pos (nI_le (by omega) (by have := hi.1.1; omega))]
    · have := lv_P hi h.1 h.2.1
      omega
  | succ d ih =>
    intro p k w l hp hk hx h2 h9 hn hl
    obtain ⟨k, rfl⟩ := pu_nn hk
    have hL := hi.1.1
    have hpL : p < L := by omega
    have e : dt_listCopiesOn_2 (k + 1) w (nI c) (nI p) = dt_listCopiesOn_2_b (dt_listCopiesOn_2 k) w (nI c) (nI p) := rfl
    have e3 : ¬ w.1 3 ≤ nI p := by
      rw [hx.1 3 (by decide), hi.1.2]
      exact nI_ge hpL (by omega)
    rw [e]
    unfold dt_listCopiesOn_2_b
    rw [if_neg e3]
    have Pat : ∀ f, f < 16 → lv u f → (w.2 6 f = nI p ↔ P f = p) := fun f hf hv => by
      rw [hx.2 6 (by decide), (hi.2.2.2.2.2.1 f hf hv).2.2.1]
      have := lv_P hi hf hv
      exact nI_eq (by omega) (by omega)
    rcases pt_at w (nI c) (nI p) with ⟨t1, t2⟩ | ⟨f, hf, f1, f2, t1⟩
    · -- none there
      rw [t1]
      simp only [ts_b]
      rw [if_pos trivial, nI_1]
      have none : ∀ x, x < 16 → lv u x → C x = c → P x ≠ p := fun x hx16 hv hcx hpx => by
        refine t2 x hx16 ⟨(ex_lc hx (nI c) x).mpr ((lc_C hi hx16 hc).mpr ⟨hv, hcx⟩), (Pat x hx16 hv).mpr hpx⟩
      obtain ⟨w', l', i1, i2, i3, i4, i5, i6, i7⟩ := ih (p + 1) k w l (by omega) (by omega) hx h2 h9 hn (fun x hxl => ⟨(hl x hxl).1, fun q => (hl x hxl).2 ⟨q.1, q.2.1, by omega⟩⟩)
      refine ⟨w', l', i1, i2, i3, i4, i5, fun x => ⟨fun h => ?_, fun h => ?_⟩, i7⟩
      · have := (i6 x).mp h
        exact ⟨this.1, this.2.1, this.2.2.1, by omega⟩
      · refine (i6 x).mpr ⟨h.1, h.2.1, h.2.2.1, ?_⟩
        have := none x h.1 h.2.1 h.2.2.1
        omega
    · -- the file f
      have fl := (lc_C hi hf hc).mp ((ex_lc hx (nI c) f).mp f1)
      have fp := (Pat f hf fl.1).mp f2
      have fnl : f ∉ l := fun q => (hl f q).2 ⟨fl.1, fl.2, by omega⟩
      have hnd : (l ++ [f]).Nodup := by
        rw [List.nodup_append]
        refine ⟨hn, by simp, fun a ha b hb => ?_⟩
        rw [List.mem_singleton] at hb
        rw [hb]
        exact fun q => fnl (q ▸ ha)
      have hlen : l.length < 16 := by
        have := ph 16 (l ++ [f]) hnd (fun x hxl => by
          rcases List.mem_append.mp hxl with q | q
          · exact (hl x q).1
          · rw [List.mem_singleton] at q; rw [q]; exact hf)
        rw [List.length_append, List.length_singleton] at this
        omega
      rw [t1]
      simp only [ts_b]
      rw [if_neg (pu_m1 (by omega)), h2, if_neg (pu_16 hlen), pu_ix hlen (by decide), pu_cl hlen]
      have e2 : (ts_a 9 l.length (nI f) w).1 2 + 1 = nI (l ++ [f]).length := by
        show w.1 2 + 1 = _
        rw [h2, nI_1, List.length_append, List.length_singleton]
      rw [e2, nI_1]
      obtain ⟨w', l', i1, i2, i3, i4, i5, i6, i7⟩ := ih (p + 1) k (ts_p 2 (nI (l ++ [f]).length) (ts_a 9 l.length (nI f) w)) (l ++ [f]) (by omega) (by omega) (ex_p (ex_a hx _ _) _) rfl (ag_push h9 f) hnd (fun x hxl => by
        rcases List.mem_append.mp hxl with q | q
        · exact ⟨(hl x q).1, fun z => (hl x q).2 ⟨z.1, z.2.1, by omega⟩⟩
        · rw [List.mem_singleton] at q
          rw [q]
          exact ⟨hf, fun z => by omega⟩)
      refine ⟨w', f :: l', i1, i2, ?_, ?_, ?_, fun x => ⟨fun h => ?_, fun h => ?_⟩, List.pairwise_cons.mpr ⟨fun y hy => ?_, i7⟩⟩
      · rw [List.append_cons]; exact i3
      · rw [List.append_cons]; exact i4
      · rw [List.append_cons]; exact i5
      · rcases List.mem_cons.mp h with q | q
        · rw [q]; exact ⟨hf, fl.1, fl.2, by omega⟩
        · have := (i6 x).mp q
          exact ⟨this.1, this.2.1, this.2.2.1, by omega⟩
      · by_cases q : P x = p
        · have : x = f := by
            rcases Nat.decEq x f with z | z
            · exact absurd (by rw [q, fp]) (hi.2.2.2.2.2.2.1 x f h.1 hf h.2.1 fl.1 z (by rw [h.2.2.1, fl.2]))
            · exact z
          rw [this]
          exact List.mem_cons_self
        · exact List.mem_cons_of_mem _ ((i6 x).mpr ⟨h.1, h.2.1, h.2.2.1, by omega⟩)
      · have := (i6 y).mp hy
        omega
theorem pt_list {u : ts_S} {L : Nat} {E N C P : Nat → Nat} (hi : iv u L E N C P) {c : Nat} (hc : c < 4) {w : ts_S} {l : List Nat} (hx : ex u w) (h2 : w.1 2 = nI l.length) (h9 : ag (w.2 9) l) (hn : l.Nodup) (hl : ∀ x ∈ l, x < 16 ∧ ¬ (lv u x ∧ C x = c)) :
    ∃ w' l', dt_listCopiesOn w (nI c) = some (0, w') ∧ ex u w' ∧ w'.1 2 = nI (l ++ l').length ∧ ag (w'.2 9) (l ++ l') ∧ (l ++ l').Nodup ∧ (∀ x, x ∈ l' ↔ (x < 16 ∧ lv u x ∧ C x = c)) ∧ l'.Pairwise (fun x y => P x < P y) := by
  obtain ⟨w', l', i1, i2, i3, i4, i5, i6, i7⟩ := pt_list_l hi hc L 0 40 w l (by omega) (by have := hi.1.1; omega) hx h2 h9 hn (fun x q => ⟨(hl x q).1, fun z => (hl x q).2 ⟨z.1, z.2.1⟩⟩)
  exact ⟨w', l', i1, i2, i3, i4, i5, fun x => ⟨fun h => by have := (i6 x).mp h; exact ⟨this.1, this.2.1, this.2.2.1⟩, fun h => (i6 x).mpr ⟨h.1, h.2.1, h.2.2, Nat.zero_le _⟩⟩, i7⟩
/-- two lists in rising order with the same members are the same -/
theorem rk_eq (rk : Nat → Nat) : ∀ (l m : List Nat), l.Pairwise (fun x y => rk x < rk y) → m.Pairwise (fun x y => rk x < rk y) → (∀ x, x ∈ l ↔ x ∈ m) → l = m := by
  intro l
  induction l with
  | nil =>
    intro m _ _ h
    cases m with
    | nil => rfl
    | cons b t => exact absurd ((h b).mpr List.mem_cons_self) (by simp)
  | cons a l ih =>
    intro m hl hm h
    cases m with
    | nil => exact absurd ((h a).mp List.mem_cons_self) (by simp)
    | cons b t =>
      obtain ⟨l1, l2⟩ := List.pairwise_cons.mp hl
      obtain ⟨m1, m2⟩ := List.pairwise_cons.mp hm
      have hab : a = b := by
        rcases List.mem_cons.mp ((h a).mp List.mem_cons_self) with q | q
        · exact q
        · rcases List.mem_cons.mp ((h b).mpr List.mem_cons_self) with z | z
          · exact z.symm
          · have := m1 a q
            have := l1 b z
            omega
      subst hab
      have : l = t := ih t l2 m2 (fun x => by
        constructor
        · intro hx
          rcases List.mem_cons.mp ((h x).mp (List.mem_cons_of_mem _ hx)) with q | q
          · have := l1 x hx
            rw [q] at this
            omega
          · exact q
        · intro hx
          rcases List.mem_cons.mp ((h x).mpr (List.mem_cons_of_mem _ hx)) with q | q
          · have := m1 x hx
            rw [q] at this
            omega
          · exact q)
      rw [this]
