/-! THE CLAIM OUT OF ONE WALK OF THE LAW'S BODY. Your part is whole_start (and what it stands on); all else here is the same for every law, but numbers. -/
def R_law : String := "TierStoreLaw"
def lw_P (b : Addr) (xs : List Int32) (args : Array Value) (s : State) : Prop := args = #[.ref b] ∧ s.IntsAt b xs ∧ xs.length ≤ 2050 ∧ (Jvm.Cond.and given_1 narrow_1).before args s = true
def lw_Q (_ : Array Value) (s : State) (o : Outcome) (t : State) : Prop := o = .returned (some (.int 1)) ∧ Framed s o t [] 600000 7302250
def lw_Z (below : List Frame) (a : Array Value) (s : State) : State → Prop := fun t => ∃ o, t.status = .running ∧ Ended t below o ∧ lw_Q a s o t
/-- the law's own end, with 1 on the stack, nothing written that was there before, its room as the claim has it -/
theorem lw_ret {p : Program} {l : Launch} {e : Env} {s : State} {m : MethodId} {below : List Frame} {meth : Method} {c : Code} {b : Nat} (hx : p.tables.exec = Jvm.exec) (hb : c.code = code) (hr : meth.sig.returnType = ret) (hlocks : meth.locks = false) {pc : Nat} {H : Heap} {ls : Array Slot} (hdg : decode code pc = .ok (.ireturn, 1)) : W p l e room_1 s m #[Value.ref b] below meth c H [] 600000 7302250 (lw_Z below #[Value.ref b] s) (F0 m pc ls [.int 1]) := by
  intro T hT X
  obtain ⟨fs, hret, hrun, hended, hW, hframe⟩ := X.leave (v := some (.int 1)) (hlocks := hlocks) (fun h => by rw [hr] at h; cases h)
  have hmeth' : T.vm.method? m = some meth := X.method'
  refine ⟨T.setFrames fs, ?_, .returned (some (.int 1)), hrun, hended, rfl, ⟨_, rfl⟩, hW, hframe⟩
  jvm_step X.here [X.here.top, hx, hb, hdg, hmeth', hr, ret, narrow_b1]
  (try refine ⟨rfl, ?_⟩); (try refine ⟨rfl, ?_⟩)
  first | (intro acts; rw [hret _ acts rfl rfl rfl]) | rw [hret _ _ rfl rfl rfl]
  exact Steps.refl _
/-- what holds at the law's entry: the machine, the code, the tables' words (any of lw_tbl by 'hts w (by decide +kernel)'), the script of L ints xs at the cell b, what the Statement gives of the start (any of its parts by flat_of_before) -/
def lw_At (p : Program) (s : State) (m : MethodId) (meth : Method) (c : Code) (b L : Nat) (xs : Nat → Int32) : Prop :=
  p.tables.exec = Jvm.exec ∧ c.code = code ∧ meth.sig.returnType = ret ∧ c.maxLocals = 4 ∧ s.vm.findClass R_law = some m.cls ∧ (∀ w ∈ lw_tbl, w.before #[Value.ref b] s = true) ∧ va_X b L xs s s.heap ∧ b < s.heap.size ∧ meth.locks = false ∧ (Jvm.Cond.and given_1 narrow_1).before #[Value.ref b] s = true

/-! two worlds side by side -/
section
variable {D : va_G} {cl : List vw_C} {A : Nat → Prop} {w1 w2 w3 : va_W} {H H1 : Heap}
theorem vp_l (hP : va_P D cl (w1 ++ w2) H) : va_P D cl w1 H := fun k q hk => hP k q (by rw [List.getElem?_append_left (List.getElem?_eq_some_iff.mp hk).1]; exact hk)
theorem vp_r (hP : va_P D cl (w1 ++ w2) H) : va_P D cl w2 H := fun k q hk => hP (w1.length + k) q (by rw [List.getElem?_append_right (Nat.le_add_right _ _), Nat.add_sub_cancel_left]; exact hk)
theorem vd_l (hD : va_D A (w1 ++ w2)) : va_D A w1 := ⟨fun i j p q hi hj e => hD.1 i j p q (by rw [List.getElem?_append_left (List.getElem?_eq_some_iff.mp hi).1]; exact hi) (by rw [List.getElem?_append_left (List.getElem?_eq_some_iff.mp hj).1]; exact hj) e, fun k q hk => hD.2 k q (by rw [List.getElem?_append_left (List.getElem?_eq_some_iff.mp hk).1]; exact hk)⟩
theorem vd_r (hD : va_D A (w1 ++ w2)) : va_D A w2 := ⟨fun i j p q hi hj e => by
    have := hD.1 (w1.length + i) (w1.length + j) p q (by rw [List.getElem?_append_right (Nat.le_add_right _ _), Nat.add_sub_cancel_left]; exact hi) (by rw [List.getElem?_append_right (Nat.le_add_right _ _), Nat.add_sub_cancel_left]; exact hj) e
    omega, fun k q hk => hD.2 (w1.length + k) q (by rw [List.getElem?_append_right (Nat.le_add_right _ _), Nat.add_sub_cancel_left]; exact hk)⟩
theorem vd_x (hD : va_D A (w1 ++ w2)) : ∀ (i j : Nat) (p q : Nat × va_E), w1[i]? = some p → w2[j]? = some q → p.1 ≠ q.1 := fun i j p q hi hj e => by
  have h := (List.getElem?_eq_some_iff.mp hi).1
  have := hD.1 i (w1.length + j) p q (by rw [List.getElem?_append_left h]; exact hi) (by rw [List.getElem?_append_right (Nat.le_add_right _ _), Nat.add_sub_cancel_left]; exact hj) e
  omega
/-- the callee has the first world: the second stays -/
theorem fr_1 (hP : va_P D cl (w1 ++ w2) H) (hD : va_D A (w1 ++ w2)) (hk : ∀ q : Nat, q < H.size → ¬ va_A w1 H.size q → H1[q]? = H[q]?) (hF : ∀ q, va_A w1 H.size q → A q) (hP1 : va_P D cl w3 H1) (hD1 : va_D (va_A w1 H.size) w3) : va_P D cl (w3 ++ w2) H1 ∧ va_D A (w3 ++ w2) := by
  have no : ∀ (j : Nat) (q : Nat × va_E), w2[j]? = some q → q.1 < H.size ∧ ¬ va_A w1 H.size q.1 := fun j q hj => by
    have lt := (vp_r hP j q hj).lt
    refine ⟨lt, ?_⟩
    rintro (⟨k, e, he⟩ | h)
    · exact vd_x hD k j (q.1, e) q he hj rfl
    · omega
  refine ⟨va_P.app hP1 ((vp_r hP).kept (fun k q hq => hk q.1 (no k q hq).1 (no k q hq).2)), va_D.app (hD1.weaken (fun _ q _ h => hF q.1 h)) (vd_r hD) (fun i j p q hi hj e => ?_)⟩
  have h1 := hD1.2 i p hi
  rw [e] at h1
  exact (no j q hj).2 h1
theorem fr_2 (hP : va_P D cl (w1 ++ w2) H) (hD : va_D A (w1 ++ w2)) (hk : ∀ q : Nat, q < H.size → ¬ va_A w2 H.size q → H1[q]? = H[q]?) (hF : ∀ q, va_A w2 H.size q → A q) (hP1 : va_P D cl w3 H1) (hD1 : va_D (va_A w2 H.size) w3) : va_P D cl (w1 ++ w3) H1 ∧ va_D A (w1 ++ w3) := by
  have no : ∀ (j : Nat) (q : Nat × va_E), w1[j]? = some q → q.1 < H.size ∧ ¬ va_A w2 H.size q.1 := fun j q hj => by
    have lt := (vp_l hP j q hj).lt
    refine ⟨lt, ?_⟩
    rintro (⟨k, e, he⟩ | h)
    · exact vd_x hD j k q (q.1, e) hj he rfl
    · omega
  refine ⟨va_P.app ((vp_l hP).kept (fun k q hq => hk q.1 (no k q hq).1 (no k q hq).2)) hP1, va_D.app (vd_l hD) (hD1.weaken (fun _ q _ h => hF q.1 h)) (fun i j p q hi hj e => ?_)⟩
  have h1 := hD1.2 j q hj
  rw [← e] at h1
  exact (no i p hi).2 h1
end
def lw2 (D : va_G) (caT : Nat → ClassId) (adT : Nat → Nat) (caM : Nat → ClassId) (adM : Nat → Nat) (A : Nat → Prop) (s : State) (H : Heap) (locs : List Loc) (u v : ts_S) : Prop :=
  va_P D vwCl (tt_w adT caT u ++ mm_w adM caM v) H ∧ va_D A (tt_w adT caT u ++ mm_w adM caM v) ∧ va_S A s.heap H locs ∧ va_K D vwCl (tt_k caT) s ∧ va_K D vwCl (mm_k caM) s ∧ ∀ q : Nat, s.heap.size ≤ q → A q
theorem lw2_T {D : va_G} {caT : Nat → ClassId} {adT : Nat → Nat} {caM : Nat → ClassId} {adM : Nat → Nat} {A : Nat → Prop} {s : State} {H : Heap} {locs : List Loc} {u v : ts_S} (h : lw2 D caT adT caM adM A s H locs u v) : ts_W tF D caT adT A s H locs u := ⟨vp_l h.1, vd_l h.2.1, h.2.2.1, h.2.2.2.1, h.2.2.2.2.2⟩
theorem lw2_M {D : va_G} {caT : Nat → ClassId} {adT : Nat → Nat} {caM : Nat → ClassId} {adM : Nat → Nat} {A : Nat → Prop} {s : State} {H : Heap} {locs : List Loc} {u v : ts_S} (h : lw2 D caT adT caM adM A s H locs u v) : ts_W mF D caM adM A s H locs v := ⟨vp_r h.1, vd_r h.2.1, h.2.2.1, h.2.2.2.2.1, h.2.2.2.2.2⟩
section
variable {p : Program} {l : Launch} {e : Env} {R : Room} {s : State} {m : MethodId} {args : Array Value} {below : List Frame} {meth : Method} {c : Code} {H : Heap} {locs : List Loc} {Q : State → Prop} {cc : ByteArray} {pc nL : Nat} {ls : Array Slot} {rest : List Value} {D : va_G} {caT caM : Nat → ClassId} {adT adM : Nat → Nat} {A : Nat → Prop} {u v u0 v0 : ts_S} {cells slots : Nat}
theorem lwT_i {y : MethodName} {bytes : ByteArray} {maxL index n : Nat} {ret : Option FieldType} {rm : Room} {av : (Nat → Nat) → List Value} {As : List Value} {r0 : Int32} (hc : CallFix p m c cc nL s args uW RL) (hn : nx s) (hw : lw2 D caT adT caM adM A s H locs u v) (hM : ts_Ci tF l y (.code y bytes maxL ret :: uW) rm av u r0 u0) (hav : av adT = .ref (adT 0) :: As)
    (cw : CallW R s args RL RT index y bytes maxL ret (.code y bytes maxL ret :: uW) rm 0 0 n) (hlen : As.length = n) (hsz : ls.size = nL) (hrest : (rest.map fun v => v.category).sum ≤ 8) (hdg : decode cc pc = .ok (.invokevirtual index, 3)) (hcs : cells + 0 ≤ R.cells ∧ slots + 0 ≤ R.slots)
    (kk : ∀ (H1 : Heap) (locs1 : List Loc), lw2 D caT adT caM adM A s H1 locs1 u0 v → W p l e R s m args below meth c H1 locs1 cells slots Q (F0 m (pc + 3) ls (.int r0 :: rest))) : W p l e R s m args below meth c H locs cells slots Q (F0 m pc ls (As.reverse ++ .ref (adT 0) :: rest)) := by
  have hw' := lw2_T hw
  refine va_calli (va_runV (As := As) (rest := rest) hc (hM D caT adT H.size) cw ⟨ts_blind, va_recv hw'.2.2.2.1 hw'.1 (ci := 1) (q0 := 0) rfl rfl, ts_start (by rw [hav]) hn hw'⟩ rfl hlen hsz rfl (lv_room hrest) hdg hcs) hw.2.2.1 (fun q _ h => ts_hF hw' q h) (ts_hF hw') (fun r x t H1 locs1 ht hvm hp hB hz1 hk1 hS => ?_)
  obtain ⟨rfl, rfl⟩ := hp
  obtain ⟨hP1, -, hD1⟩ := hB
  rw [ht] at hP1
  obtain ⟨hP2, hD2⟩ := fr_1 hw.1 hw.2.1 hk1 (ts_hF hw') hP1 hD1
  exact kk H1 locs1 ⟨hP2, hD2, hS, hw.2.2.2⟩
theorem lwT_l {y : MethodName} {bytes : ByteArray} {maxL index n : Nat} {ret : Option FieldType} {rm : Room} {av : (Nat → Nat) → List Value} {As : List Value} {r0 : Int64} (hc : CallFix p m c cc nL s args uW RL) (hn : nx s) (hw : lw2 D caT adT caM adM A s H locs u v) (hM : ts_Cl tF l y (.code y bytes maxL ret :: uW) rm av u r0 u0) (hav : av adT = .ref (adT 0) :: As)
    (cw : CallW R s args RL RT index y bytes maxL ret (.code y bytes maxL ret :: uW) rm 0 0 n) (hlen : As.length = n) (hsz : ls.size = nL) (hrest : (rest.map fun v => v.category).sum ≤ 8) (hdg : decode cc pc = .ok (.invokevirtual index, 3)) (hcs : cells + 0 ≤ R.cells ∧ slots + 0 ≤ R.slots)
    (kk : ∀ (H1 : Heap) (locs1 : List Loc), lw2 D caT adT caM adM A s H1 locs1 u0 v → W p l e R s m args below meth c H1 locs1 cells slots Q (F0 m (pc + 3) ls (.long r0 :: rest))) : W p l e R s m args below meth c H locs cells slots Q (F0 m pc ls (As.reverse ++ .ref (adT 0) :: rest)) := by
  have hw' := lw2_T hw
  refine va_calll (va_runV (As := As) (rest := rest) hc (hM D caT adT H.size) cw ⟨ts_blind, va_recv hw'.2.2.2.1 hw'.1 (ci := 1) (q0 := 0) rfl rfl, ts_start (by rw [hav]) hn hw'⟩ rfl hlen hsz rfl (lv_room hrest) hdg hcs) hw.2.2.1 (fun q _ h => ts_hF hw' q h) (ts_hF hw') (fun r x t H1 locs1 ht hvm hp hB hz1 hk1 hS => ?_)
  obtain ⟨rfl, rfl⟩ := hp
  obtain ⟨hP1, -, hD1⟩ := hB
  rw [ht] at hP1
  obtain ⟨hP2, hD2⟩ := fr_1 hw.1 hw.2.1 hk1 (ts_hF hw') hP1 hD1
  exact kk H1 locs1 ⟨hP2, hD2, hS, hw.2.2.2⟩
theorem lwM_i {y : MethodName} {bytes : ByteArray} {maxL index n : Nat} {ret : Option FieldType} {rm : Room} {av : (Nat → Nat) → List Value} {As : List Value} {r0 : Int32} (hc : CallFix p m c cc nL s args uW RL) (hn : nx s) (hw : lw2 D caT adT caM adM A s H locs u v) (hM : ts_Ci mF l y (.code y bytes maxL ret :: uW) rm av v r0 v0) (hav : av adM = .ref (adM 0) :: As)
    (cw : CallW R s args RL RM index y bytes maxL ret (.code y bytes maxL ret :: uW) rm 0 0 n) (hlen : As.length = n) (hsz : ls.size = nL) (hrest : (rest.map fun v => v.category).sum ≤ 8) (hdg : decode cc pc = .ok (.invokevirtual index, 3)) (hcs : cells + 0 ≤ R.cells ∧ slots + 0 ≤ R.slots)
    (kk : ∀ (H1 : Heap) (locs1 : List Loc), lw2 D caT adT caM adM A s H1 locs1 u v0 → W p l e R s m args below meth c H1 locs1 cells slots Q (F0 m (pc + 3) ls (.int r0 :: rest))) : W p l e R s m args below meth c H locs cells slots Q (F0 m pc ls (As.reverse ++ .ref (adM 0) :: rest)) := by
  have hw' := lw2_M hw
  refine va_calli (va_runV (As := As) (rest := rest) hc (hM D caM adM H.size) cw ⟨ts_blind, va_recv hw'.2.2.2.1 hw'.1 (ci := 2) (q0 := 0) rfl rfl, ts_start (by rw [hav]) hn hw'⟩ rfl hlen hsz rfl (lv_room hrest) hdg hcs) hw.2.2.1 (fun q _ h => ts_hF hw' q h) (ts_hF hw') (fun r x t H1 locs1 ht hvm hp hB hz1 hk1 hS => ?_)
  obtain ⟨rfl, rfl⟩ := hp
  obtain ⟨hP1, -, hD1⟩ := hB
  rw [ht] at hP1
  obtain ⟨hP2, hD2⟩ := fr_2 hw.1 hw.2.1 hk1 (ts_hF hw') hP1 hD1
  exact kk H1 locs1 ⟨hP2, hD2, hS, hw.2.2.2⟩
theorem lwM_l {y : MethodName} {bytes : ByteArray} {maxL index n : Nat} {ret : Option FieldType} {rm : Room} {av : (Nat → Nat) → List Value} {As : List Value} {r0 : Int64} (hc : CallFix p m c cc nL s args uW RL) (hn : nx s) (hw : lw2 D caT adT caM adM A s H locs u v) (hM : ts_Cl mF l y (.code y bytes maxL ret :: uW) rm av v r0 v0) (hav : av adM = .ref (adM 0) :: As)
    (cw : CallW R s args RL RM index y bytes maxL ret (.code y bytes maxL ret :: uW) rm 0 0 n) (hlen : As.length = n) (hsz : ls.size = nL) (hrest : (rest.map fun v => v.category).sum ≤ 8) (hdg : decode cc pc = .ok (.invokevirtual index, 3)) (hcs : cells + 0 ≤ R.cells ∧ slots + 0 ≤ R.slots)
    (kk : ∀ (H1 : Heap) (locs1 : List Loc), lw2 D caT adT caM adM A s H1 locs1 u v0 → W p l e R s m args below meth c H1 locs1 cells slots Q (F0 m (pc + 3) ls (.long r0 :: rest))) : W p l e R s m args below meth c H locs cells slots Q (F0 m pc ls (As.reverse ++ .ref (adM 0) :: rest)) := by
  have hw' := lw2_M hw
  refine va_calll (va_runV (As := As) (rest := rest) hc (hM D caM adM H.size) cw ⟨ts_blind, va_recv hw'.2.2.2.1 hw'.1 (ci := 2) (q0 := 0) rfl rfl, ts_start (by rw [hav]) hn hw'⟩ rfl hlen hsz rfl (lv_room hrest) hdg hcs) hw.2.2.1 (fun q _ h => ts_hF hw' q h) (ts_hF hw') (fun r x t H1 locs1 ht hvm hp hB hz1 hk1 hS => ?_)
  obtain ⟨rfl, rfl⟩ := hp
  obtain ⟨hP1, -, hD1⟩ := hB
  rw [ht] at hP1
  obtain ⟨hP2, hD2⟩ := fr_2 hw.1 hw.2.1 hk1 (ts_hF hw') hP1 hD1
  exact kk H1 locs1 ⟨hP2, hD2, hS, hw.2.2.2⟩
end
theorem nx_of {args : Array Value} {s : State} (hts : ∀ w ∈ lw_tbl, w.before args s = true) : nx s := by
  intro w hw
  have h1 := hts w (List.mem_filter.mp hw).1
  have h2 := (List.mem_filter.mp hw).2
  cases w <;> first | exact va_Nw.of rfl h1 | exact absurd h2 (by decide) | (cases h2; done)
def rL_cell : Room := { frames := 0, cells := 0, slots := 0, locals := 0 }
set_option maxHeartbeats 4000000 in
theorem cL_cell (l : Launch) {b L : Nat} {xs : Nat → Int32} (hL : L < 2 ^ 31) {k : Int32} (hk : ¬ k < 0) : Met l yL_cell (.code yL_cell bL_cell 2 (some .int) :: uW) rL_cell (va_Pc [.ref b, .int k] (fun U => va_X b L xs U U.heap ∧ b < U.heap.size)) (va_Qi (fun r (_ : Unit) => r = (if nI L ≤ k then 0 else xs k.toNatClampNeg)) (fun _ _ => True) (fun _ => False)) 0 0 (fun _ => False) := by
  refine Met.ofW (cc := bL_cell) (maxL := 2) (ret := some .int) (by decide) rfl ?_
  intro p e s m args below meth c s₁ B hml hv
  obtain ⟨rfl, hX, hbl⟩ := hv
  have hx := B.exec
  have hb := B.bytes
  have hr := B.returns
  have hlk := B.notSynchronized
  have hS : va_S (fun _ => False) s.heap s.heap [] := va_S.rf
  have hl := lv_entry ([.ref b, .int k]) (n := 2) (Nat.le_of_ble_eq_true rfl)
  rw [lg_entry_eq]
  generalize (lg_sl ([.ref b, .int k]) ++ List.replicate (2 - (lg_sl ([.ref b, .int k])).length) Slot.unset).toArray = ls at hl ⊢
  replace hl : lv_has ls 2 [(0, .ref b), (1, .int k)] := hl
  refine lv_iload_n hx hb dL_cell_0 rfl (lv_at hl 1 rfl) ?_
  refine lv_aload_n hx hb dL_cell_1 rfl (lv_at hl 0 rfl) ?_
  refine va_slen hx hb hX hbl (fun q => q) hS dL_cell_2 ?_
  refine lv_icmp_ge (tgt := 12) hx hb dL_cell_3 (by decide) (fun cq => ?_) (fun cq => ?_)
  · refine lv_iconst (v := 0) hx hb dL_cell_12 (by decide) ?_
    exact W.iret hx hb hr (fun t ht hW => ⟨⟨0, (), rfl, (if_pos (show nI L ≤ k from cq)).symm, trivial⟩, hS.F ht⟩) hS.2.2 dL_cell_13 hlk
  · have hin : vp_in k L := by
      rcases pk_ix k hL with q | q | ⟨j, hj, rfl⟩
      · exact absurd q hk
      · exact absurd q cq
      · exact vp_in_nI hj hL
    refine lv_aload_n hx hb dL_cell_6 rfl (lv_at hl 0 rfl) ?_
    refine lv_iload_n hx hb dL_cell_7 rfl (lv_at hl 1 rfl) ?_
    refine va_sld hx hb hX hbl (fun q => q) hS hin dL_cell_8 ?_
    refine lv_goto (tgt := 13) hx hb dL_cell_9 (by decide) ?_
    exact W.iret hx hb hr (fun t ht hW => ⟨⟨_, (), rfl, (if_neg (show ¬ nI L ≤ k from cq)).symm, trivial⟩, hS.F ht⟩) hS.2.2 dL_cell_13 hlk
section
variable {p : Program} {l : Launch} {e : Env} {R : Room} {s : State} {m : MethodId} {args : Array Value} {below : List Frame} {meth : Method} {c : Code} {H : Heap} {locs : List Loc} {Q : State → Prop} {cc : ByteArray} {pc nL : Nat} {ls : Array Slot} {rest : List Value} {A : Nat → Prop} {cells slots : Nat}
/-- the law calls cell(script, k): the heap's old cells stay -/
theorem lw_cell {b L : Nat} {xs : Nat → Int32} (hL : L < 2 ^ 31) {k : Int32} (hk : ¬ k < 0) (hc : CallFix p m c cc nL s args uW RL) (hX : va_X b L xs s s.heap) (hbl : b < s.heap.size) (hbA : ¬ A b) (hS : va_S A s.heap H locs) (hR : rL_cell.frames + 1 ≤ R.frames ∧ 8 + (2 + 11) + rL_cell.locals ≤ R.locals) (hsz : ls.size = nL) (hrest : (rest.map fun v => v.category).sum ≤ 8) (hdg : decode cc pc = .ok (.invokestatic 9, 3)) (hcs : cells + 0 ≤ R.cells ∧ slots + 0 ≤ R.slots)
    (kk : ∀ (H1 : Heap) (locs1 : List Loc), (∀ q : Nat, q < H.size → H1[q]? = H[q]?) → va_S A s.heap H1 locs1 → W p l e R s m args below meth c H1 locs1 cells slots Q (F0 m (pc + 3) ls (.int (if nI L ≤ k then 0 else xs k.toNatClampNeg) :: rest))) : W p l e R s m args below meth c H locs cells slots Q (F0 m pc ls (.int k :: .ref b :: rest)) := by
  have hXH : va_X b L xs s H := hX.kept (hS.2.1 b hbl hbA)
  have hbH : b < H.size := Nat.lt_of_lt_of_le hbl hS.1
  refine va_calli (va_runS (As := [.ref b, .int k]) (rest := rest) hc (cL_cell l hL hk (b := b) (xs := xs)) (cwS 2 hc.2.2.2.2 (gd_S (by decide +kernel) (by decide +kernel) (by decide +kernel) code_L_cell) rfl rfl rfl (by decide +kernel) hR) ⟨fun a U g mk q => by obtain ⟨q0, qX, qb⟩ := q; exact ⟨q0, va_X.moved (u := U) (U := U.calling g mk a) (Vm.Alike.refl U.vm) qX, qb⟩, fun U hU hW => ⟨rfl, by rw [hU]; exact va_X.moved hW.alike hXH, by rw [hU]; exact hbH⟩⟩ rfl rfl hsz rfl (lv_room hrest) hdg hcs) hS (fun q _ h => h.elim) (fun q h => h.elim) (fun r x t H1 locs1 ht hvm hp hB hz1 hk1 hS => ?_)
  subst hp
  exact kk H1 locs1 (fun q hq => hk1 q hq (fun f => f)) hS
end
theorem lg_same (r : Int64) : lg_cmp r r = 0 := by
  unfold lg_cmp
  simp
