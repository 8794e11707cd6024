theorem ck_in (x : Int32) : ∃ L, L ≤ 20 ∧ ck 20 x = nI L := by
  unfold ck
  by_cases a : 4 ≤ x
  · rw [if_pos a]
    by_cases b : x ≤ 20
    · rw [if_pos b]
      exact nI_of2 (M := 20) (n := 20) (by decide) (fun q => Int32.lt_irrefl (Int32.lt_of_lt_of_le (Int32.lt_of_lt_of_le q (by decide : (0 : Int32) ≤ 4)) a)) b
    · rw [if_neg b]
      exact ⟨20, Nat.le_refl _, rfl⟩
  · rw [if_neg a]
    exact ⟨4, by omega, rfl⟩
theorem wt_0 : ∀ n, wt (fun _ => 0) n = 0 := by
  intro n
  induction n with
  | zero => rfl
  | succ n ih =>
    rw [wt_s, if_pos rfl]
    exact ih
theorem ri_0 (x y : Int32) : ri (in0 (ck 24 x) (ck 20 y)) (in0 (ck 24 x) (ck 20 y)) := by
  obtain ⟨L, hL, e⟩ := ck_in y
  refine ⟨⟨fun _ _ _ => rfl, fun h => absurd rfl h, fun _ => rfl, fun _ _ _ _ _ => rfl, fun _ _ _ _ => rfl⟩, L, fun _ => 0, fun _ => 0, fun _ => 0, fun _ => 0, ⟨hL, e⟩, Or.inl rfl, ⟨0, by omega, rfl⟩, fun c _ => ⟨Nat.zero_le L, rfl⟩, fun f _ => ⟨Nat.zero_le 4, rfl, fun h => absurd rfl h⟩, fun f _ h => ?_, fun f g _ _ h => ?_, ?_⟩
  · have h' : (0 : Int32) = 2 ∨ (0 : Int32) = 3 := h
    rcases h' with h | h <;> exact absurd h (by decide)
  · have h' : (0 : Int32) = 2 ∨ (0 : Int32) = 3 := h
    rcases h' with h | h <;> exact absurd h (by decide)
  · show wt (fun _ => 0) 16 ≤ 6
    rw [wt_0]
    omega
set_option maxHeartbeats 8000000 in
set_option maxRecDepth 100000 in
/-- THE LAW, from its entry -/
theorem whole_start {p : Program} {e : Env} {s : State} {m : MethodId} {below : List Frame} {meth : Method} {c : Code} (l : Launch) {b L : Nat} {xs : Nat → Int32} (hL : L ≤ 2050) (C0 : lw_At p s m meth c b L xs) : W p l e room_1 s m #[Value.ref b] below meth c s.heap [] 0 0 (lw_Z below #[Value.ref b] s) (entryFrame m ([Value.ref b] : List Value).toArray 4) := by
  obtain ⟨hx, hb, hr, hml, hown0, hts0, hX, hbl, hlocks, hgv⟩ := id C0
  have hL31 : L < 2 ^ 31 := by omega
  have hn := nx_of hts0
  have hts := uW_hts hts0
  have hown : s.vm.findClass RL = some m.cls := hown0
  have hc : CallFix p m c code 4 s #[Value.ref b] uW RL := ⟨hx, hb, hml, hown, hts⟩
  have hov : (Cond.arrayOver (.array .int)).before #[] s = true := hts0 (.arrayOver (.array .int)) (by decide +kernel)
  have hA : ∀ q : Nat, s.heap.size ≤ q → (fun q : Nat => s.heap.size ≤ q) q := fun _ h => h
  have hbA : ¬ (fun q : Nat => s.heap.size ≤ q) b := Nat.not_le.mpr hbl
  obtain ⟨c0, iS0, hKn0⟩ := u_known (C := RP) (T := FP) (N := 6) (n := 6) hts inP (hts (.instantiable RP 6) (by decide +kernel))
  obtain ⟨c1, iS1, hKn1⟩ := u_known (C := RT) (T := FT) (N := 12) (n := 12) hts inT (hts (.instantiable RT 12) (by decide +kernel))
  obtain ⟨c2, iS2, hKn2⟩ := u_known (C := RM) (T := FM) (N := 16) (n := 16) hts inM (hts (.instantiable RM 16) (by decide +kernel))
  obtain ⟨D, hKc⟩ : ∃ D : va_G, ∀ (k : Nat) (q : vw_C), vwCl[k]? = some q → u_Kn s q.1 q.2.1 q.2.2 (D.1 k) (D.2 k) := by
    refine ⟨(fun k => if k = 0 then c0 else if k = 1 then c1 else c2, fun k => if k = 0 then iS0 else if k = 1 then iS1 else iS2), ?_⟩
    intro k q hq
    match k, hq with
    | 0, hq => cases hq; exact hKn0
    | 1, hq => cases hq; exact hKn1
    | 2, hq => cases hq; exact hKn2
    | k + 3, hq => simp [vwCl] at hq
  have hS : va_S (fun q : Nat => s.heap.size ≤ q) s.heap s.heap [] := va_S.rf
  have hK : va_K D vwCl [] s := ⟨hKc, fun k q h => by simp at h⟩
  have hP : va_P D vwCl [] s.heap := fun k q h => by simp at h
  have hD : va_D (fun q : Nat => s.heap.size ≤ q) [] := ⟨fun i j p q h => by simp at h, fun k q h => by simp at h⟩
  have hl := lv_entry ([.ref b]) (n := 4) (Nat.le_of_ble_eq_true rfl)
  rw [lg_entry_eq]
  generalize (lg_sl ([.ref b]) ++ List.replicate (4 - (lg_sl ([.ref b])).length) Slot.unset).toArray = ls at hl ⊢
  replace hl : lv_has ls 4 [(0, .ref b)] := hl
  obtain ⟨a0, ea0⟩ : ∃ z : Int32, z = (if nI L ≤ 0 then 0 else xs (0 : Int32).toNatClampNeg) := ⟨_, rfl⟩
  obtain ⟨a1, ea1⟩ : ∃ z : Int32, z = (if nI L ≤ 1 then 0 else xs (1 : Int32).toNatClampNeg) := ⟨_, rfl⟩
  -- new TierStore
  refine va_new (ci := 1) (fs := [.int 0, .null, .null, .null, .null, .null, .null, .null, .null, .int 0, .null, .int 0]) (C := RT) (T := FT) (N := 12) hx hb hts inT tT tT_ok hown (hts (.classLink RL 7 RT) (by decide +kernel)) (hts (.instantiable RT 12) (by decide +kernel)) (hts (.initialized RT) (by decide +kernel)) hK hP hD hS hA rfl (fun j hj => by rcases (show j = 0 ∨ j = 1 ∨ j = 2 ∨ j = 3 ∨ j = 4 ∨ j = 5 ∨ j = 6 ∨ j = 7 ∨ j = 8 ∨ j = 9 ∨ j = 10 ∨ j = 11 by omega) with rfl | rfl | rfl | rfl | rfl | rfl | rfl | rfl | rfl | rfl | rfl | rfl <;> rfl) (Nat.le_of_ble_eq_true rfl) (Nat.le_of_ble_eq_true rfl) dL_law_0 (fun q0 H hP hD hS => ?_)
  have hP : va_P D vwCl (wT0 q0) H := hP
  have hD : va_D (fun q : Nat => s.heap.size ≤ q) (wT0 q0) := hD
  refine W.widen (k := 1) (n := 12) (Nat.le_of_ble_eq_true rfl) (Nat.le_of_ble_eq_true rfl) ?_
  refine lv_dup hx hb dL_law_3 rfl ?_
  refine lv_aload_n hx hb dL_law_4 rfl (lv_at hl 0 rfl) ?_
  refine lv_iconst (v := 0) hx hb dL_law_5 (by decide) ?_
  refine lw_cell hL31 (by decide) hc hX hbl hbA hS ⟨Nat.le_of_ble_eq_true rfl, Nat.le_of_ble_eq_true rfl⟩ hl.1 (Nat.le_of_ble_eq_true rfl) dL_law_6 ⟨Nat.le_of_ble_eq_true rfl, Nat.le_of_ble_eq_true rfl⟩ (fun H1 locs1 hk hS => ?_)
  have hP := hP.kept (fun k q hq => hk q.1 (hP k q hq).lt)
  rw [← ea0]
  refine lv_aload_n hx hb dL_law_9 rfl (lv_at hl 0 rfl) ?_
  refine lv_iconst (v := 1) hx hb dL_law_10 (by decide) ?_
  refine lw_cell hL31 (by decide) hc hX hbl hbA hS ⟨Nat.le_of_ble_eq_true rfl, Nat.le_of_ble_eq_true rfl⟩ hl.1 (Nat.le_of_ble_eq_true rfl) dL_law_11 ⟨Nat.le_of_ble_eq_true rfl, Nat.le_of_ble_eq_true rfl⟩ (fun H locs hk hS => ?_)
  have hP := hP.kept (fun k q hq => hk q.1 (hP k q hq).lt)
  rw [← ea1]
  have hFc := va_free (wc := wT0 q0) hD hS hA [0] rfl
  refine va_callv (va_runI (As := [.int a0, .int a1]) (rest := [.ref q0]) ⟨hx, hb, hml, hown, hts⟩ (cT_init l D q0 H.size a0 a1) (cwI 2 hts (gd_N code_T_init) rfl rfl rfl (hts (.initialized RT) (by decide +kernel)) (hts (.methodLink RL 15 yT_init) (by decide +kernel)) (hts (.instanceMethod yT_init) (by decide +kernel)) rfl (by decide +kernel) ⟨Nat.le_of_ble_eq_true rfl, Nat.le_of_ble_eq_true rfl⟩) ⟨fun a U g mk q => by obtain ⟨q0, q1, qP, qK, qD, qN, qO⟩ := q; exact ⟨q0, q1, qP, va_K.moved (u := U) (U := U.calling g mk a) (Vm.Alike.refl U.vm) qK, qD, nx_same (u := U) (U := U.calling g mk a) rfl qN, over_moved (u := U) (E := U.calling g mk a) (Vm.Alike.refl U.vm) qO⟩, fun U hU hW => ⟨rfl, by rw [hU], by rw [hU]; exact hP, va_K.moved hW.alike hK, hD.weaken (fun _ _ _ _ => trivial), nx_warm hW hn, over_moved hW.alike hov⟩⟩ rfl rfl hl.1 rfl (lv_room (Nat.le_of_ble_eq_true rfl)) dL_law_14 ⟨Nat.le_of_ble_eq_true rfl, Nat.le_of_ble_eq_true rfl⟩) hS (fun q _ h => hFc q h) hFc (fun w t H1 locs ht hvm hw hB hz1 hk1 hS => ?_)
  obtain ⟨adT, caT⟩ := w
  obtain ⟨hP1, hK1, hD1⟩ := hB
  rw [ht] at hP1
  have hKT : va_K D vwCl (tt_k caT) s := va_K.moved hvm.symm hK1
  have hq0 : q0 = adT 0 := hw.symm
  subst hq0
  have hP : va_P D vwCl (tt_w adT caT (in0 (ck 24 a0) (ck 20 a1))) H1 := hP1
  have hD : va_D (fun q : Nat => s.heap.size ≤ q) (tt_w adT caT (in0 (ck 24 a0) (ck 20 a1))) := hD1.weaken (fun _ q _ h => hFc q.1 h)
  refine W.widen (k := 28) (n := 218) (Nat.le_of_ble_eq_true rfl) (Nat.le_of_ble_eq_true rfl) ?_
  refine lv_astore_n (lv' := [(1, .ref (adT 0)), (0, .ref b)]) hx hb dL_law_17 rfl hl (by decide) rfl (fun ls hl => ?_)
  -- new TierStoreModel
  refine va_new (ci := 2) (fs := [.int 0, .int 0, .null, .null, .null, .null, .null, .null, .null, .null, .null, .null, .int 0, .int 0, .int 0, .int 0]) (C := RM) (T := FM) (N := 16) hx hb hts inM tM tM_ok hown (hts (.classLink RL 18 RM) (by decide +kernel)) (hts (.instantiable RM 16) (by decide +kernel)) (hts (.initialized RM) (by decide +kernel)) hK hP hD hS hA rfl (fun j hj => by rcases (show j = 0 ∨ j = 1 ∨ j = 2 ∨ j = 3 ∨ j = 4 ∨ j = 5 ∨ j = 6 ∨ j = 7 ∨ j = 8 ∨ j = 9 ∨ j = 10 ∨ j = 11 ∨ j = 12 ∨ j = 13 ∨ j = 14 ∨ j = 15 by omega) with rfl | rfl | rfl | rfl | rfl | rfl | rfl | rfl | rfl | rfl | rfl | rfl | rfl | rfl | rfl | rfl <;> rfl) (Nat.le_of_ble_eq_true rfl) (Nat.le_of_ble_eq_true rfl) dL_law_18 (fun q1 H hP hD hS => ?_)
  have hP : va_P D vwCl (tt_w adT caT (in0 (ck 24 a0) (ck 20 a1)) ++ wM0 q1) H := hP
  have hD : va_D (fun q : Nat => s.heap.size ≤ q) (tt_w adT caT (in0 (ck 24 a0) (ck 20 a1)) ++ wM0 q1) := hD
  refine W.widen (k := 29) (n := 234) (Nat.le_of_ble_eq_true rfl) (Nat.le_of_ble_eq_true rfl) ?_
  refine lv_dup hx hb dL_law_21 rfl ?_
  refine lv_aload_n hx hb dL_law_22 rfl (lv_at hl 1 rfl) ?_
  refine lv_iconst (v := 0) hx hb dL_law_23 (by decide) ?_
  refine lw_cell hL31 (by decide) hc hX hbl hbA hS ⟨Nat.le_of_ble_eq_true rfl, Nat.le_of_ble_eq_true rfl⟩ hl.1 (Nat.le_of_ble_eq_true rfl) dL_law_24 ⟨Nat.le_of_ble_eq_true rfl, Nat.le_of_ble_eq_true rfl⟩ (fun H1 locs1 hk hS => ?_)
  have hP := hP.kept (fun k q hq => hk q.1 (hP k q hq).lt)
  rw [← ea0]
  refine lv_aload_n hx hb dL_law_27 rfl (lv_at hl 1 rfl) ?_
  refine lv_iconst (v := 1) hx hb dL_law_28 (by decide) ?_
  refine lw_cell hL31 (by decide) hc hX hbl hbA hS ⟨Nat.le_of_ble_eq_true rfl, Nat.le_of_ble_eq_true rfl⟩ hl.1 (Nat.le_of_ble_eq_true rfl) dL_law_29 ⟨Nat.le_of_ble_eq_true rfl, Nat.le_of_ble_eq_true rfl⟩ (fun H locs hk hS => ?_)
  have hP := hP.kept (fun k q hq => hk q.1 (hP k q hq).lt)
  rw [← ea1]
  have hPM := vp_r hP
  have hDM := vd_r hD
  have hFM : ∀ q, va_A (wM0 q1) H.size q → s.heap.size ≤ q := by
    rintro q (⟨k, e, hk⟩ | h)
    · exact hDM.2 k _ hk
    · exact Nat.le_trans hS.1 h
  refine va_callv (va_runI (As := [.int a0, .int a1]) (rest := [.ref q1]) ⟨hx, hb, hml, hown, hts⟩ (cM_init l D q1 H.size a0 a1) (cwI 2 hts (gd_N code_M_init) rfl rfl rfl (hts (.initialized RM) (by decide +kernel)) (hts (.methodLink RL 20 yM_init) (by decide +kernel)) (hts (.instanceMethod yM_init) (by decide +kernel)) rfl (by decide +kernel) ⟨Nat.le_of_ble_eq_true rfl, Nat.le_of_ble_eq_true rfl⟩) ⟨fun a U g mk q => by obtain ⟨q0, q1, qP, qK, qD⟩ := q; exact ⟨q0, q1, qP, va_K.moved (u := U) (U := U.calling g mk a) (Vm.Alike.refl U.vm) qK, qD⟩, fun U hU hW => ⟨rfl, by rw [hU], by rw [hU]; exact hPM, va_K.moved hW.alike hK, hDM.weaken (fun _ _ _ _ => trivial)⟩⟩ rfl rfl hl.1 rfl (lv_room (Nat.le_of_ble_eq_true rfl)) dL_law_32 ⟨Nat.le_of_ble_eq_true rfl, Nat.le_of_ble_eq_true rfl⟩) hS (fun q _ h => hFM q h) hFM (fun w t H1 locs ht hvm hw hB hz1 hk1 hS => ?_)
  obtain ⟨adM, caM⟩ := w
  obtain ⟨hP1, hK1, hD1⟩ := hB
  rw [ht] at hP1
  have hKM : va_K D vwCl (mm_k caM) s := va_K.moved hvm.symm hK1
  have hq1 : q1 = adM 0 := hw.symm
  subst hq1
  obtain ⟨hP, hD⟩ := fr_2 hP hD hk1 hFM hP1 hD1
  refine W.widen (k := 39) (n := 418) (Nat.le_of_ble_eq_true rfl) (Nat.le_of_ble_eq_true rfl) ?_
  refine lv_astore_n (lv' := [(2, .ref (adM 0)), (1, .ref (adT 0)), (0, .ref b)]) hx hb dL_law_35 rfl hl (by decide) rfl (fun ls hl => ?_)
  refine lv_iconst (v := 2) hx hb dL_law_36 (by decide) ?_
  refine lv_istore_n (lv' := [(3, .int (nI 2)), (2, .ref (adM 0)), (1, .ref (adT 0)), (0, .ref b)]) hx hb dL_law_37 rfl hl (by decide) rfl (fun ls hl => ?_)
  exact law_loop hL C0 (L + 4) 2 _ _ _ _ ls (by omega) (by omega) (ri_0 _ _) ⟨hP, hD, hS, hKT, hKM, hA⟩ (lv_sub hl [3, 2, 1, 0] rfl)

