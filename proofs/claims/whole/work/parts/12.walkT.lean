def rT_isFileNumber : Room := { frames := 0, cells := 0, slots := 0, locals := 0 }
set_option maxHeartbeats 4000000 in
set_option maxRecDepth 100000 in
theorem ct_isFileNumber (l : Launch) {u : ts_S} {x0 : Int32} {r0 : Int32} {u0 : ts_S} (hd : dt_isFileNumber u x0 = some (r0, u0)) : ts_Ci tF l yT_isFileNumber (.code yT_isFileNumber bT_isFileNumber 1 (some .boolean) :: uW) rT_isFileNumber (fun ad => [.int x0]) u r0 u0 := by
  refine ts_in_i tF l (by decide) (fun p e s m args below meth c D ca ad A hc hn hr hlk hw => ?_)
  have hx := hc.1
  have hb := hc.2.1
  have hl := lv_entry ([.int x0]) (n := 1) (Nat.le_of_ble_eq_true rfl)
  rw [lg_entry_eq]
  generalize (lg_sl ([.int x0]) ++ List.replicate (1 - (lg_sl ([.int x0])).length) Slot.unset).toArray = ls at hl ⊢
  replace hl : lv_has ls 1 [(0, .int x0)] := hl
  unfold dt_isFileNumber at hd
  refine lv_iload_n hx hb dT_isFileNumber_0 rfl (lv_at hl 0 rfl) ?_
  refine lv_if_lt (tgt := 14) hx hb dT_isFileNumber_1 (by decide) (fun cq => ?_) (fun cq => ?_)
  · replace hd := ts_if_p cq hd
    refine lv_iconst (v := 0) hx hb dT_isFileNumber_14 (by decide) ?_
    exact ts_iret hx hb hr hlk (by decide +kernel) hw hd dT_isFileNumber_15
  · replace hd := ts_if_n cq hd
    refine lv_iload_n hx hb dT_isFileNumber_4 rfl (lv_at hl 0 rfl) ?_
    refine lv_bipush (v := 16) hx hb dT_isFileNumber_5 (by decide) ?_
    refine lv_icmp_ge (tgt := 14) hx hb dT_isFileNumber_7 (by decide) (fun cq => ?_) (fun cq => ?_)
    · replace hd := ts_if_p cq hd
      refine lv_iconst (v := 0) hx hb dT_isFileNumber_14 (by decide) ?_
      exact ts_iret hx hb hr hlk (by decide +kernel) hw hd dT_isFileNumber_15
    · replace hd := ts_if_n cq hd
      refine lv_iconst (v := 1) hx hb dT_isFileNumber_10 (by decide) ?_
      refine lv_goto (tgt := 15) hx hb dT_isFileNumber_11 (by decide) ?_
      exact ts_iret hx hb hr hlk (by decide +kernel) hw hd dT_isFileNumber_15
section
variable {p : Program} {l : Launch} {e : Env} {R : Room} {s : State} {m : MethodId} {args : Array Value} {below : List Frame} {meth : Method} {c : Code} {H : Heap} {locs : List Loc} {Q : State → Prop} {cc : ByteArray} {pc nL : Nat} {ls : Array Slot} {rest : List Value} {D : va_G} {ca : Nat → ClassId} {ad : Nat → Nat} {A : Nat → Prop} {u : ts_S} {cells slots : Nat}
theorem cT_65 (hc : CallFix p m c cc nL s args uW RT) (hn : nx s) (hw : ts_W tF D ca ad A s H locs u) {x0 : Int32} {r0 : Int32} {u0 : ts_S} (hq : dt_isFileNumber u x0 = some (r0, u0)) (hsz : ls.size = nL) (hR : rT_isFileNumber.frames + 1 ≤ R.frames ∧ 8 + (1 + 11) + rT_isFileNumber.locals ≤ R.locals) (hrest : (rest.map fun v => v.category).sum ≤ 8) (hdg : decode cc pc = .ok (.invokestatic 65, 3)) (kk : ∀ (H1 : Heap) (locs1 : List Loc), ts_W tF D ca ad A s H1 locs1 u0 → W p l e R s m args below meth c H1 locs1 0 0 Q (F0 m (pc + 3) ls (.int r0 :: rest))) : W p l e R s m args below meth c H locs 0 0 Q (F0 m pc ls (.int x0 :: rest)) :=
  ts_callSi (As := [.int x0]) hc hn hw (ct_isFileNumber l hq) rfl (cwS 1 hc.2.2.2.2 (gd_S (by decide +kernel) (by decide +kernel) (by decide +kernel) (code_T_isFileNumber)) rfl rfl rfl (by decide +kernel) hR) rfl hsz hrest hdg kk
end
def rT_isOnDisk : Room := { frames := 0, cells := 0, slots := 0, locals := 0 }
set_option maxHeartbeats 4000000 in
set_option maxRecDepth 100000 in
theorem ct_isOnDisk (l : Launch) {u : ts_S} {x1 : Int32} {r0 : Int32} {u0 : ts_S} (hd : dt_isOnDisk u x1 = some (r0, u0)) : ts_Ci tF l yT_isOnDisk (.code yT_isOnDisk bT_isOnDisk 2 (some .boolean) :: uW) rT_isOnDisk (fun ad => [.ref (ad 0), .int x1]) u r0 u0 := by
  refine ts_in_i tF l (by decide) (fun p e s m args below meth c D ca ad A hc hn hr hlk hw => ?_)
  have hx := hc.1
  have hb := hc.2.1
  have hl := lv_entry ([.ref (ad 0), .int x1]) (n := 2) (Nat.le_of_ble_eq_true rfl)
  rw [lg_entry_eq]
  generalize (lg_sl ([.ref (ad 0), .int x1]) ++ List.replicate (2 - (lg_sl ([.ref (ad 0), .int x1])).length) Slot.unset).toArray = ls at hl ⊢
  replace hl : lv_has ls 2 [(0, .ref (ad 0)), (1, .int x1)] := hl
  unfold dt_isOnDisk at hd
  refine lv_aload_n hx hb dT_isOnDisk_0 rfl (lv_at hl 0 rfl) ?_
  refine gT_9 hc hn hw dT_isOnDisk_1 ?_
  refine lv_iload_n hx hb dT_isOnDisk_4 rfl (lv_at hl 1 rfl) ?_
  obtain ⟨h, hd⟩ := ts_ix_s hd
  refine tt_l2 hc hw h dT_isOnDisk_5 ?_
  refine lv_iconst (v := 1) hx hb dT_isOnDisk_6 (by decide) ?_
  refine lv_icmp_eq (tgt := 20) hx hb dT_isOnDisk_7 (by decide) (fun cq => ?_) (fun cq => ?_)
  · replace hd := ts_if_p cq hd
    refine lv_iconst (v := 1) hx hb dT_isOnDisk_20 (by decide) ?_
    refine lv_goto (tgt := 25) hx hb dT_isOnDisk_21 (by decide) ?_
    exact ts_iret hx hb hr hlk (by decide +kernel) hw hd dT_isOnDisk_25
  · replace hd := ts_if_n cq hd
    refine lv_aload_n hx hb dT_isOnDisk_10 rfl (lv_at hl 0 rfl) ?_
    refine gT_9 hc hn hw dT_isOnDisk_11 ?_
    refine lv_iload_n hx hb dT_isOnDisk_14 rfl (lv_at hl 1 rfl) ?_
    obtain ⟨h, hd⟩ := ts_ix_s hd
    refine tt_l2 hc hw h dT_isOnDisk_15 ?_
    refine lv_iconst (v := 2) hx hb dT_isOnDisk_16 (by decide) ?_
    refine lv_icmp_ne (tgt := 24) hx hb dT_isOnDisk_17 (by decide) (fun cq => ?_) (fun cq => ?_)
    · replace hd := ts_if_n cq hd
      refine lv_iconst (v := 0) hx hb dT_isOnDisk_24 (by decide) ?_
      exact ts_iret hx hb hr hlk (by decide +kernel) hw hd dT_isOnDisk_25
    · replace hd := ts_if_p cq hd
      refine lv_iconst (v := 1) hx hb dT_isOnDisk_20 (by decide) ?_
      refine lv_goto (tgt := 25) hx hb dT_isOnDisk_21 (by decide) ?_
      exact ts_iret hx hb hr hlk (by decide +kernel) hw hd dT_isOnDisk_25
section
variable {p : Program} {l : Launch} {e : Env} {R : Room} {s : State} {m : MethodId} {args : Array Value} {below : List Frame} {meth : Method} {c : Code} {H : Heap} {locs : List Loc} {Q : State → Prop} {cc : ByteArray} {pc nL : Nat} {ls : Array Slot} {rest : List Value} {D : va_G} {ca : Nat → ClassId} {ad : Nat → Nat} {A : Nat → Prop} {u : ts_S} {cells slots : Nat}
theorem cT_158 (hc : CallFix p m c cc nL s args uW RT) (hn : nx s) (hw : ts_W tF D ca ad A s H locs u) {x1 : Int32} {r0 : Int32} {u0 : ts_S} (hq : dt_isOnDisk u x1 = some (r0, u0)) (hsz : ls.size = nL) (hR : rT_isOnDisk.frames + 1 ≤ R.frames ∧ 8 + (2 + 11) + rT_isOnDisk.locals ≤ R.locals) (hrest : (rest.map fun v => v.category).sum ≤ 8) (hdg : decode cc pc = .ok (.invokevirtual 158, 3)) (kk : ∀ (H1 : Heap) (locs1 : List Loc), ts_W tF D ca ad A s H1 locs1 u0 → W p l e R s m args below meth c H1 locs1 0 0 Q (F0 m (pc + 3) ls (.int r0 :: rest))) : W p l e R s m args below meth c H locs 0 0 Q (F0 m pc ls (.int x1 :: .ref (ad 0) :: rest)) :=
  ts_callVi (b := ad 0) (As := [.int x1]) hc hn hw (ct_isOnDisk l hq) rfl (cwV 1 hc.2.2.2.2 (gd_V (by decide +kernel) (by decide +kernel) (by decide +kernel) (by decide +kernel) (code_T_isOnDisk)) rfl rfl rfl (by decide +kernel) hR) (va_recv hw.2.2.2.1 hw.1 (ci := 1) (q0 := 0) rfl rfl) rfl hsz hrest hdg kk
end
def rT_unitsTaken : Room := { frames := 1, cells := 0, slots := 0, locals := 21 }
set_option maxHeartbeats 4000000 in
set_option maxRecDepth 100000 in
theorem ct_unitsTaken (l : Launch) {u : ts_S} {r0 : Int32} {u0 : ts_S} (hd : dt_unitsTaken u = some (r0, u0)) : ts_Ci tF l yT_unitsTaken (.code yT_unitsTaken bT_unitsTaken 3 (some .int) :: uW) rT_unitsTaken (fun ad => [.ref (ad 0)]) u r0 u0 := by
  refine ts_in_i tF l (by decide) (fun p e s m args below meth c D ca ad A hc hn hr hlk hw => ?_)
  have hx := hc.1
  have hb := hc.2.1
  have hl := lv_entry ([.ref (ad 0)]) (n := 3) (Nat.le_of_ble_eq_true rfl)
  rw [lg_entry_eq]
  generalize (lg_sl ([.ref (ad 0)]) ++ List.replicate (3 - (lg_sl ([.ref (ad 0)])).length) Slot.unset).toArray = ls at hl ⊢
  replace hl : lv_has ls 3 [(0, .ref (ad 0))] := hl
  have L4 : ∀ (n : Nat) (u : ts_S) (x1 x2 : Int32) (H : Heap) (locs : List Loc) (ls : Array Slot), dt_unitsTaken_4 n u x1 x2 = some (r0, u0) → ts_W tF D ca ad A s H locs u → lv_has ls 3 [(0, .ref (ad 0)), (1, .int x1), (2, .int x2)] → W p l e rT_unitsTaken s m args below meth c H locs 0 0 (MQ below (va_Qi (fun r v => r = r0 ∧ v = u0) (ts_post tF D ca ad A) A) args s 0 0 A) (F0 m 4 ls []) := by
    intro n
    induction n with
    | zero => intro u x1 x2 H locs ls hd; cases (show (none : Option (Int32 × ts_S)) = some (r0, u0) from hd)
    | succ n4 ih4 =>
      intro u x1 x2 H locs ls hd hw hl
      replace hd : dt_unitsTaken_4_b (dt_unitsTaken_4 n4) u x1 x2 = some (r0, u0) := hd
      unfold dt_unitsTaken_4_b at hd
      refine lv_iload_n hx hb dT_unitsTaken_4 rfl (lv_at hl 2 rfl) ?_
      refine lv_bipush (v := 16) hx hb dT_unitsTaken_5 (by decide) ?_
      refine lv_icmp_ge (tgt := 33) hx hb dT_unitsTaken_7 (by decide) (fun cq => ?_) (fun cq => ?_)
      · replace hd := ts_if_p cq hd
        refine lv_iload_n hx hb dT_unitsTaken_33 rfl (lv_at hl 1 rfl) ?_
        exact ts_iret hx hb hr hlk (vp_nar_int _) hw hd dT_unitsTaken_34
      · replace hd := ts_if_n cq hd
        refine lv_aload_n hx hb dT_unitsTaken_10 rfl (lv_at hl 0 rfl) ?_
        refine lv_iload_n hx hb dT_unitsTaken_11 rfl (lv_at hl 2 rfl) ?_
        obtain ⟨r12, u12, hq, hd⟩ := ts_b_s hd
        refine cT_158 hc hn hw hq hl.1 ⟨Nat.le_of_ble_eq_true rfl, Nat.le_of_ble_eq_true rfl⟩ (Nat.le_of_ble_eq_true rfl) dT_unitsTaken_12 (fun H locs hw => ?_)
        refine lv_if_eq (tgt := 27) hx hb dT_unitsTaken_15 (by decide) (fun cq => ?_) (fun cq => ?_)
        · replace hd := ts_if_p cq hd
          refine lv_iinc (v := (x2 + 1)) (lv' := [(2, .int (x2 + 1)), (0, .ref (ad 0)), (1, .int x1)]) hx hb dT_unitsTaken_27 hl (k := 2) rfl rfl (by decide) rfl (fun ls hl => ?_)
          refine lv_goto (tgt := 4) hx hb dT_unitsTaken_30 (by decide) ?_
          exact ih4 u12 x1 (x2 + 1) _ _ _ hd hw (lv_sub hl [1, 2, 0] rfl)
        · replace hd := ts_if_n cq hd
          refine lv_iload_n hx hb dT_unitsTaken_18 rfl (lv_at hl 1 rfl) ?_
          refine lv_aload_n hx hb dT_unitsTaken_19 rfl (lv_at hl 0 rfl) ?_
          refine gT_13 hc hn hw dT_unitsTaken_20 ?_
          refine lv_iload_n hx hb dT_unitsTaken_23 rfl (lv_at hl 2 rfl) ?_
          obtain ⟨h, hd⟩ := ts_ix_s hd
          refine tt_l3 hc hw h dT_unitsTaken_24 ?_
          refine lv_iadd hx hb dT_unitsTaken_25 ?_
          refine lv_istore_n (lv' := [(1, .int (x1 + (u12.2 3 x2.toNatClampNeg))), (0, .ref (ad 0)), (2, .int x2)]) hx hb dT_unitsTaken_26 rfl hl (by decide) rfl (fun ls hl => ?_)
          refine lv_iinc (v := (x2 + 1)) (lv' := [(2, .int (x2 + 1)), (1, .int (x1 + (u12.2 3 x2.toNatClampNeg))), (0, .ref (ad 0))]) hx hb dT_unitsTaken_27 hl (k := 2) rfl rfl (by decide) rfl (fun ls hl => ?_)
          refine lv_goto (tgt := 4) hx hb dT_unitsTaken_30 (by decide) ?_
          exact ih4 u12 (x1 + (u12.2 3 x2.toNatClampNeg)) (x2 + 1) _ _ _ hd hw (lv_sub hl [2, 1, 0] rfl)
  unfold dt_unitsTaken at hd
  refine lv_iconst (v := 0) hx hb dT_unitsTaken_0 (by decide) ?_
  refine lv_istore_n (lv' := [(1, .int 0), (0, .ref (ad 0))]) hx hb dT_unitsTaken_1 rfl hl (by decide) rfl (fun ls hl => ?_)
  refine lv_iconst (v := 0) hx hb dT_unitsTaken_2 (by decide) ?_
  refine lv_istore_n (lv' := [(2, .int 0), (1, .int 0), (0, .ref (ad 0))]) hx hb dT_unitsTaken_3 rfl hl (by decide) rfl (fun ls hl => ?_)
  exact L4 40 u 0 0 _ _ _ hd hw (lv_sub hl [2, 1, 0] rfl)
section
variable {p : Program} {l : Launch} {e : Env} {R : Room} {s : State} {m : MethodId} {args : Array Value} {below : List Frame} {meth : Method} {c : Code} {H : Heap} {locs : List Loc} {Q : State → Prop} {cc : ByteArray} {pc nL : Nat} {ls : Array Slot} {rest : List Value} {D : va_G} {ca : Nat → ClassId} {ad : Nat → Nat} {A : Nat → Prop} {u : ts_S} {cells slots : Nat}
theorem cT_105 (hc : CallFix p m c cc nL s args uW RT) (hn : nx s) (hw : ts_W tF D ca ad A s H locs u) {r0 : Int32} {u0 : ts_S} (hq : dt_unitsTaken u = some (r0, u0)) (hsz : ls.size = nL) (hR : rT_unitsTaken.frames + 1 ≤ R.frames ∧ 8 + (3 + 11) + rT_unitsTaken.locals ≤ R.locals) (hrest : (rest.map fun v => v.category).sum ≤ 8) (hdg : decode cc pc = .ok (.invokevirtual 105, 3)) (kk : ∀ (H1 : Heap) (locs1 : List Loc), ts_W tF D ca ad A s H1 locs1 u0 → W p l e R s m args below meth c H1 locs1 0 0 Q (F0 m (pc + 3) ls (.int r0 :: rest))) : W p l e R s m args below meth c H locs 0 0 Q (F0 m pc ls (.ref (ad 0) :: rest)) :=
  ts_callVi (b := ad 0) (As := []) hc hn hw (ct_unitsTaken l hq) rfl (cwV 0 hc.2.2.2.2 (gd_V (by decide +kernel) (by decide +kernel) (by decide +kernel) (by decide +kernel) (code_T_unitsTaken)) rfl rfl rfl (by decide +kernel) hR) (va_recv hw.2.2.2.1 hw.1 (ci := 1) (q0 := 0) rfl rfl) rfl hsz hrest hdg kk
end
def rT_hasRoom : Room := { frames := 2, cells := 0, slots := 0, locals := 43 }
set_option maxHeartbeats 4000000 in
set_option maxRecDepth 100000 in
theorem ct_hasRoom (l : Launch) {u : ts_S} {x1 : Int32} {r0 : Int32} {u0 : ts_S} (hd : dt_hasRoom u x1 = some (r0, u0)) : ts_Ci tF l yT_hasRoom (.code yT_hasRoom bT_hasRoom 2 (some .boolean) :: uW) rT_hasRoom (fun ad => [.ref (ad 0), .int x1]) u r0 u0 := by
  refine ts_in_i tF l (by decide) (fun p e s m args below meth c D ca ad A hc hn hr hlk hw => ?_)
  have hx := hc.1
  have hb := hc.2.1
  have hl := lv_entry ([.ref (ad 0), .int x1]) (n := 2) (Nat.le_of_ble_eq_true rfl)
  rw [lg_entry_eq]
  generalize (lg_sl ([.ref (ad 0), .int x1]) ++ List.replicate (2 - (lg_sl ([.ref (ad 0), .int x1])).length) Slot.unset).toArray = ls at hl ⊢
  replace hl : lv_has ls 2 [(0, .ref (ad 0)), (1, .int x1)] := hl
  unfold dt_hasRoom at hd
  refine lv_aload_n hx hb dT_hasRoom_0 rfl (lv_at hl 0 rfl) ?_
  refine gT_53 hc hn hw dT_hasRoom_1 ?_
  refine lv_aload_n hx hb dT_hasRoom_4 rfl (lv_at hl 0 rfl) ?_
  obtain ⟨r5, u5, hq, hd⟩ := ts_b_s hd
  refine cT_105 hc hn hw hq hl.1 ⟨Nat.le_of_ble_eq_true rfl, Nat.le_of_ble_eq_true rfl⟩ (Nat.le_of_ble_eq_true rfl) dT_hasRoom_5 (fun H locs hw => ?_)
  refine lv_isub hx hb dT_hasRoom_8 ?_
  refine lv_iload_n hx hb dT_hasRoom_9 rfl (lv_at hl 1 rfl) ?_
  refine lv_icmp_lt (tgt := 17) hx hb dT_hasRoom_10 (by decide) (fun cq => ?_) (fun cq => ?_)
  · replace hd := ts_if_p cq hd
    refine lv_iconst (v := 0) hx hb dT_hasRoom_17 (by decide) ?_
    exact ts_iret hx hb hr hlk (by decide +kernel) hw hd dT_hasRoom_18
  · replace hd := ts_if_n cq hd
    refine lv_iconst (v := 1) hx hb dT_hasRoom_13 (by decide) ?_
    refine lv_goto (tgt := 18) hx hb dT_hasRoom_14 (by decide) ?_
    exact ts_iret hx hb hr hlk (by decide +kernel) hw hd dT_hasRoom_18
section
variable {p : Program} {l : Launch} {e : Env} {R : Room} {s : State} {m : MethodId} {args : Array Value} {below : List Frame} {meth : Method} {c : Code} {H : Heap} {locs : List Loc} {Q : State → Prop} {cc : ByteArray} {pc nL : Nat} {ls : Array Slot} {rest : List Value} {D : va_G} {ca : Nat → ClassId} {ad : Nat → Nat} {A : Nat → Prop} {u : ts_S} {cells slots : Nat}
theorem cT_161 (hc : CallFix p m c cc nL s args uW RT) (hn : nx s) (hw : ts_W tF D ca ad A s H locs u) {x1 : Int32} {r0 : Int32} {u0 : ts_S} (hq : dt_hasRoom u x1 = some (r0, u0)) (hsz : ls.size = nL) (hR : rT_hasRoom.frames + 1 ≤ R.frames ∧ 8 + (2 + 11) + rT_hasRoom.locals ≤ R.locals) (hrest : (rest.map fun v => v.category).sum ≤ 8) (hdg : decode cc pc = .ok (.invokevirtual 161, 3)) (kk : ∀ (H1 : Heap) (locs1 : List Loc), ts_W tF D ca ad A s H1 locs1 u0 → W p l e R s m args below meth c H1 locs1 0 0 Q (F0 m (pc + 3) ls (.int r0 :: rest))) : W p l e R s m args below meth c H locs 0 0 Q (F0 m pc ls (.int x1 :: .ref (ad 0) :: rest)) :=
  ts_callVi (b := ad 0) (As := [.int x1]) hc hn hw (ct_hasRoom l hq) rfl (cwV 1 hc.2.2.2.2 (gd_V (by decide +kernel) (by decide +kernel) (by decide +kernel) (by decide +kernel) (code_T_hasRoom)) rfl rfl rfl (by decide +kernel) hR) (va_recv hw.2.2.2.1 hw.1 (ci := 1) (q0 := 0) rfl rfl) rfl hsz hrest hdg kk
end
def rT_longestUnused : Room := { frames := 0, cells := 0, slots := 0, locals := 0 }
set_option maxHeartbeats 4000000 in
set_option maxRecDepth 100000 in
theorem ct_longestUnused (l : Launch) {u : ts_S} {x1 : Int32} {r0 : Int32} {u0 : ts_S} (hd : dt_longestUnused u x1 = some (r0, u0)) : ts_Ci tF l yT_longestUnused (.code yT_longestUnused bT_longestUnused 4 (some .int) :: uW) rT_longestUnused (fun ad => [.ref (ad 0), .int x1]) u r0 u0 := by
  refine ts_in_i tF l (by decide) (fun p e s m args below meth c D ca ad A hc hn hr hlk hw => ?_)
  have hx := hc.1
  have hb := hc.2.1
  have hl := lv_entry ([.ref (ad 0), .int x1]) (n := 4) (Nat.le_of_ble_eq_true rfl)
  rw [lg_entry_eq]
  generalize (lg_sl ([.ref (ad 0), .int x1]) ++ List.replicate (4 - (lg_sl ([.ref (ad 0), .int x1])).length) Slot.unset).toArray = ls at hl ⊢
  replace hl : lv_has ls 4 [(0, .ref (ad 0)), (1, .int x1)] := hl
  have L4 : ∀ (n : Nat) (u : ts_S) (x1 x2 x3 : Int32) (H : Heap) (locs : List Loc) (ls : Array Slot), dt_longestUnused_4 n u x1 x2 x3 = some (r0, u0) → ts_W tF D ca ad A s H locs u → lv_has ls 4 [(0, .ref (ad 0)), (1, .int x1), (2, .int x2), (3, .int x3)] → W p l e rT_longestUnused s m args below meth c H locs 0 0 (MQ below (va_Qi (fun r v => r = r0 ∧ v = u0) (ts_post tF D ca ad A) A) args s 0 0 A) (F0 m 4 ls []) := by
    intro n
    induction n with
    | zero => intro u x1 x2 x3 H locs ls hd; cases (show (none : Option (Int32 × ts_S)) = some (r0, u0) from hd)
    | succ n4 ih4 =>
      intro u x1 x2 x3 H locs ls hd hw hl
      replace hd : dt_longestUnused_4_b (dt_longestUnused_4 n4) u x1 x2 x3 = some (r0, u0) := hd
      unfold dt_longestUnused_4_b at hd
      refine lv_iload_n hx hb dT_longestUnused_4 rfl (lv_at hl 3 rfl) ?_
      refine lv_bipush (v := 16) hx hb dT_longestUnused_5 (by decide) ?_
      refine lv_icmp_ge (tgt := 48) hx hb dT_longestUnused_7 (by decide) (fun cq => ?_) (fun cq => ?_)
      · replace hd := ts_if_p cq hd
        refine lv_iload_n hx hb dT_longestUnused_48 rfl (lv_at hl 2 rfl) ?_
        exact ts_iret hx hb hr hlk (vp_nar_int _) hw hd dT_longestUnused_49
      · replace hd := ts_if_n cq hd
        refine lv_aload_n hx hb dT_longestUnused_10 rfl (lv_at hl 0 rfl) ?_
        refine gT_9 hc hn hw dT_longestUnused_11 ?_
        refine lv_iload_n hx hb dT_longestUnused_14 rfl (lv_at hl 3 rfl) ?_
        obtain ⟨h, hd⟩ := ts_ix_s hd
        refine tt_l2 hc hw h dT_longestUnused_15 ?_
        refine lv_iload_n hx hb dT_longestUnused_16 rfl (lv_at hl 1 rfl) ?_
        refine lv_icmp_ne (tgt := 42) hx hb dT_longestUnused_17 (by decide) (fun cq => ?_) (fun cq => ?_)
        · replace hd := ts_if_n cq hd
          refine lv_iinc (v := (x3 + 1)) (lv' := [(3, .int (x3 + 1)), (0, .ref (ad 0)), (1, .int x1), (2, .int x2)]) hx hb dT_longestUnused_42 hl (k := 3) rfl rfl (by decide) rfl (fun ls hl => ?_)
          refine lv_goto (tgt := 4) hx hb dT_longestUnused_45 (by decide) ?_
          exact ih4 u x1 x2 (x3 + 1) _ _ _ hd hw (lv_sub hl [1, 2, 3, 0] rfl)
        · replace hd := ts_if_p cq hd
          refine lv_iload_n hx hb dT_longestUnused_20 rfl (lv_at hl 2 rfl) ?_
          refine lv_iconst (v := (-1)) hx hb dT_longestUnused_21 (by decide) ?_
          refine lv_icmp_eq (tgt := 40) hx hb dT_longestUnused_22 (by decide) (fun cq => ?_) (fun cq => ?_)
          · replace hd := ts_if_p cq hd
            refine lv_iload_n hx hb dT_longestUnused_40 rfl (lv_at hl 3 rfl) ?_
            refine lv_istore_n (lv' := [(2, .int x3), (0, .ref (ad 0)), (1, .int x1), (3, .int x3)]) hx hb dT_longestUnused_41 rfl hl (by decide) rfl (fun ls hl => ?_)
            refine lv_iinc (v := (x3 + 1)) (lv' := [(3, .int (x3 + 1)), (2, .int x3), (0, .ref (ad 0)), (1, .int x1)]) hx hb dT_longestUnused_42 hl (k := 3) rfl rfl (by decide) rfl (fun ls hl => ?_)
            refine lv_goto (tgt := 4) hx hb dT_longestUnused_45 (by decide) ?_
            exact ih4 u x1 x3 (x3 + 1) _ _ _ hd hw (lv_sub hl [2, 3, 1, 0] rfl)
          · replace hd := ts_if_n cq hd
            refine lv_aload_n hx hb dT_longestUnused_25 rfl (lv_at hl 0 rfl) ?_
            refine gT_31 hc hn hw dT_longestUnused_26 ?_
            refine lv_iload_n hx hb dT_longestUnused_29 rfl (lv_at hl 3 rfl) ?_
            obtain ⟨h, hd⟩ := ts_ix_s hd
            refine tt_l8 hc hw h dT_longestUnused_30 ?_
            refine lv_aload_n hx hb dT_longestUnused_31 rfl (lv_at hl 0 rfl) ?_
            refine gT_31 hc hn hw dT_longestUnused_32 ?_
            refine lv_iload_n hx hb dT_longestUnused_35 rfl (lv_at hl 2 rfl) ?_
            obtain ⟨h, hd⟩ := ts_ix_s hd
            refine tt_l8 hc hw h dT_longestUnused_36 ?_
            refine lv_icmp_ge (tgt := 42) hx hb dT_longestUnused_37 (by decide) (fun cq => ?_) (fun cq => ?_)
            · replace hd := ts_if_p cq hd
              refine lv_iinc (v := (x3 + 1)) (lv' := [(3, .int (x3 + 1)), (0, .ref (ad 0)), (1, .int x1), (2, .int x2)]) hx hb dT_longestUnused_42 hl (k := 3) rfl rfl (by decide) rfl (fun ls hl => ?_)
              refine lv_goto (tgt := 4) hx hb dT_longestUnused_45 (by decide) ?_
              exact ih4 u x1 x2 (x3 + 1) _ _ _ hd hw (lv_sub hl [1, 2, 3, 0] rfl)
            · replace hd := ts_if_n cq hd
              refine lv_iload_n hx hb dT_longestUnused_40 rfl (lv_at hl 3 rfl) ?_
              refine lv_istore_n (lv' := [(2, .int x3), (0, .ref (ad 0)), (1, .int x1), (3, .int x3)]) hx hb dT_longestUnused_41 rfl hl (by decide) rfl (fun ls hl => ?_)
              refine lv_iinc (v := (x3 + 1)) (lv' := [(3, .int (x3 + 1)), (2, .int x3), (0, .ref (ad 0)), (1, .int x1)]) hx hb dT_longestUnused_42 hl (k := 3) rfl rfl (by decide) rfl (fun ls hl => ?_)
              refine lv_goto (tgt := 4) hx hb dT_longestUnused_45 (by decide) ?_
              exact ih4 u x1 x3 (x3 + 1) _ _ _ hd hw (lv_sub hl [2, 3, 1, 0] rfl)
  unfold dt_longestUnused at hd
  refine lv_iconst (v := (-1)) hx hb dT_longestUnused_0 (by decide) ?_
  refine lv_istore_n (lv' := [(2, .int (-1)), (0, .ref (ad 0)), (1, .int x1)]) hx hb dT_longestUnused_1 rfl hl (by decide) rfl (fun ls hl => ?_)
  refine lv_iconst (v := 0) hx hb dT_longestUnused_2 (by decide) ?_
  refine lv_istore_n (lv' := [(3, .int 0), (2, .int (-1)), (0, .ref (ad 0)), (1, .int x1)]) hx hb dT_longestUnused_3 rfl hl (by decide) rfl (fun ls hl => ?_)
  exact L4 40 u x1 (-1) 0 _ _ _ hd hw (lv_sub hl [2, 3, 1, 0] rfl)
section
variable {p : Program} {l : Launch} {e : Env} {R : Room} {s : State} {m : MethodId} {args : Array Value} {below : List Frame} {meth : Method} {c : Code} {H : Heap} {locs : List Loc} {Q : State → Prop} {cc : ByteArray} {pc nL : Nat} {ls : Array Slot} {rest : List Value} {D : va_G} {ca : Nat → ClassId} {ad : Nat → Nat} {A : Nat → Prop} {u : ts_S} {cells slots : Nat}
theorem cT_91 (hc : CallFix p m c cc nL s args uW RT) (hn : nx s) (hw : ts_W tF D ca ad A s H locs u) {x1 : Int32} {r0 : Int32} {u0 : ts_S} (hq : dt_longestUnused u x1 = some (r0, u0)) (hsz : ls.size = nL) (hR : rT_longestUnused.frames + 1 ≤ R.frames ∧ 8 + (4 + 11) + rT_longestUnused.locals ≤ R.locals) (hrest : (rest.map fun v => v.category).sum ≤ 8) (hdg : decode cc pc = .ok (.invokevirtual 91, 3)) (kk : ∀ (H1 : Heap) (locs1 : List Loc), ts_W tF D ca ad A s H1 locs1 u0 → W p l e R s m args below meth c H1 locs1 0 0 Q (F0 m (pc + 3) ls (.int r0 :: rest))) : W p l e R s m args below meth c H locs 0 0 Q (F0 m pc ls (.int x1 :: .ref (ad 0) :: rest)) :=
  ts_callVi (b := ad 0) (As := [.int x1]) hc hn hw (ct_longestUnused l hq) rfl (cwV 1 hc.2.2.2.2 (gd_V (by decide +kernel) (by decide +kernel) (by decide +kernel) (by decide +kernel) (code_T_longestUnused)) rfl rfl rfl (by decide +kernel) hR) (va_recv hw.2.2.2.1 hw.1 (ci := 1) (q0 := 0) rfl rfl) rfl hsz hrest hdg kk
end
def rT_stubOldestDouble : Room := { frames := 1, cells := 0, slots := 0, locals := 23 }
set_option maxHeartbeats 4000000 in
set_option maxRecDepth 100000 in
theorem ct_stubOldestDouble (l : Launch) {u : ts_S} {r0 : Int32} {u0 : ts_S} (hd : dt_stubOldestDouble u = some (r0, u0)) : ts_Ci tF l yT_stubOldestDouble (.code yT_stubOldestDouble bT_stubOldestDouble 2 (some .boolean) :: uW) rT_stubOldestDouble (fun ad => [.ref (ad 0)]) u r0 u0 := by
  refine ts_in_i tF l (by decide) (fun p e s m args below meth c D ca ad A hc hn hr hlk hw => ?_)
  have hx := hc.1
  have hb := hc.2.1
  have hl := lv_entry ([.ref (ad 0)]) (n := 2) (Nat.le_of_ble_eq_true rfl)
  rw [lg_entry_eq]
  generalize (lg_sl ([.ref (ad 0)]) ++ List.replicate (2 - (lg_sl ([.ref (ad 0)])).length) Slot.unset).toArray = ls at hl ⊢
  replace hl : lv_has ls 2 [(0, .ref (ad 0))] := hl
  unfold dt_stubOldestDouble at hd
  refine lv_aload_n hx hb dT_stubOldestDouble_0 rfl (lv_at hl 0 rfl) ?_
  refine lv_iconst (v := 2) hx hb dT_stubOldestDouble_1 (by decide) ?_
  obtain ⟨r2, u2, hq, hd⟩ := ts_b_s hd
  refine cT_91 hc hn hw hq hl.1 ⟨Nat.le_of_ble_eq_true rfl, Nat.le_of_ble_eq_true rfl⟩ (Nat.le_of_ble_eq_true rfl) dT_stubOldestDouble_2 (fun H locs hw => ?_)
  refine lv_istore_n (lv' := [(1, .int r2), (0, .ref (ad 0))]) hx hb dT_stubOldestDouble_5 rfl hl (by decide) rfl (fun ls hl => ?_)
  refine lv_iload_n hx hb dT_stubOldestDouble_6 rfl (lv_at hl 0 rfl) ?_
  refine lv_iconst (v := (-1)) hx hb dT_stubOldestDouble_7 (by decide) ?_
  refine lv_icmp_ne (tgt := 13) hx hb dT_stubOldestDouble_8 (by decide) (fun cq => ?_) (fun cq => ?_)
  · replace hd := ts_if_n cq hd
    refine lv_aload_n hx hb dT_stubOldestDouble_13 rfl (lv_at hl 1 rfl) ?_
    refine gT_9 hc hn hw dT_stubOldestDouble_14 ?_
    refine lv_iload_n hx hb dT_stubOldestDouble_17 rfl (lv_at hl 0 rfl) ?_
    refine lv_iconst (v := 3) hx hb dT_stubOldestDouble_18 (by decide) ?_
    obtain ⟨h, hd⟩ := ts_ix_s hd
    refine tt_s2 hc hw h dT_stubOldestDouble_19 (fun H locs hw => ?_)
    refine lv_iconst (v := 1) hx hb dT_stubOldestDouble_20 (by decide) ?_
    exact ts_iret hx hb hr hlk (by decide +kernel) hw hd dT_stubOldestDouble_21
  · replace hd := ts_if_p cq hd
    refine lv_iconst (v := 0) hx hb dT_stubOldestDouble_11 (by decide) ?_
    exact ts_iret hx hb hr hlk (by decide +kernel) hw hd dT_stubOldestDouble_12
section
variable {p : Program} {l : Launch} {e : Env} {R : Room} {s : State} {m : MethodId} {args : Array Value} {below : List Frame} {meth : Method} {c : Code} {H : Heap} {locs : List Loc} {Q : State → Prop} {cc : ByteArray} {pc nL : Nat} {ls : Array Slot} {rest : List Value} {D : va_G} {ca : Nat → ClassId} {ad : Nat → Nat} {A : Nat → Prop} {u : ts_S} {cells slots : Nat}
theorem cT_109 (hc : CallFix p m c cc nL s args uW RT) (hn : nx s) (hw : ts_W tF D ca ad A s H locs u) {r0 : Int32} {u0 : ts_S} (hq : dt_stubOldestDouble u = some (r0, u0)) (hsz : ls.size = nL) (hR : rT_stubOldestDouble.frames + 1 ≤ R.frames ∧ 8 + (2 + 11) + rT_stubOldestDouble.locals ≤ R.locals) (hrest : (rest.map fun v => v.category).sum ≤ 8) (hdg : decode cc pc = .ok (.invokevirtual 109, 3)) (kk : ∀ (H1 : Heap) (locs1 : List Loc), ts_W tF D ca ad A s H1 locs1 u0 → W p l e R s m args below meth c H1 locs1 0 0 Q (F0 m (pc + 3) ls (.int r0 :: rest))) : W p l e R s m args below meth c H locs 0 0 Q (F0 m pc ls (.ref (ad 0) :: rest)) :=
  ts_callVi (b := ad 0) (As := []) hc hn hw (ct_stubOldestDouble l hq) rfl (cwV 0 hc.2.2.2.2 (gd_V (by decide +kernel) (by decide +kernel) (by decide +kernel) (by decide +kernel) (code_T_stubOldestDouble)) rfl rfl rfl (by decide +kernel) hR) (va_recv hw.2.2.2.1 hw.1 (ci := 1) (q0 := 0) rfl rfl) rfl hsz hrest hdg kk
end
def rT_makeRoom : Room := { frames := 3, cells := 0, slots := 0, locals := 64 }
set_option maxHeartbeats 4000000 in
set_option maxRecDepth 100000 in
theorem ct_makeRoom (l : Launch) {u : ts_S} {x1 : Int32} {r0 : Int32} {u0 : ts_S} (hd : dt_makeRoom u x1 = some (r0, u0)) : ts_Ci tF l yT_makeRoom (.code yT_makeRoom bT_makeRoom 3 (some .boolean) :: uW) rT_makeRoom (fun ad => [.ref (ad 0), .int x1]) u r0 u0 := by
  refine ts_in_i tF l (by decide) (fun p e s m args below meth c D ca ad A hc hn hr hlk hw => ?_)
  have hx := hc.1
  have hb := hc.2.1
  have hl := lv_entry ([.ref (ad 0), .int x1]) (n := 3) (Nat.le_of_ble_eq_true rfl)
  rw [lg_entry_eq]
  generalize (lg_sl ([.ref (ad 0), .int x1]) ++ List.replicate (3 - (lg_sl ([.ref (ad 0), .int x1])).length) Slot.unset).toArray = ls at hl ⊢
  replace hl : lv_has ls 3 [(0, .ref (ad 0)), (1, .int x1)] := hl
  have L2 : ∀ (n : Nat) (u : ts_S) (x1 x2 : Int32) (H : Heap) (locs : List Loc) (ls : Array Slot), dt_makeRoom_2 n u x1 x2 = some (r0, u0) → ts_W tF D ca ad A s H locs u → lv_has ls 3 [(0, .ref (ad 0)), (1, .int x1), (2, .int x2)] → W p l e rT_makeRoom s m args below meth c H locs 0 0 (MQ below (va_Qi (fun r v => r = r0 ∧ v = u0) (ts_post tF D ca ad A) A) args s 0 0 A) (F0 m 2 ls []) := by
    intro n
    induction n with
    | zero => intro u x1 x2 H locs ls hd; cases (show (none : Option (Int32 × ts_S)) = some (r0, u0) from hd)
    | succ n2 ih2 =>
      intro u x1 x2 H locs ls hd hw hl
      replace hd : dt_makeRoom_2_b (dt_makeRoom_2 n2) u x1 x2 = some (r0, u0) := hd
      unfold dt_makeRoom_2_b at hd
      refine lv_iload_n hx hb dT_makeRoom_2 rfl (lv_at hl 2 rfl) ?_
      refine lv_bipush (v := 16) hx hb dT_makeRoom_3 (by decide) ?_
      refine lv_icmp_ge (tgt := 31) hx hb dT_makeRoom_5 (by decide) (fun cq => ?_) (fun cq => ?_)
      · replace hd := ts_if_p cq hd
        refine lv_aload_n hx hb dT_makeRoom_31 rfl (lv_at hl 0 rfl) ?_
        refine lv_iload_n hx hb dT_makeRoom_32 rfl (lv_at hl 1 rfl) ?_
        obtain ⟨r33, u33, hq, hd⟩ := ts_b_s hd
        refine cT_161 hc hn hw hq hl.1 ⟨Nat.le_of_ble_eq_true rfl, Nat.le_of_ble_eq_true rfl⟩ (Nat.le_of_ble_eq_true rfl) dT_makeRoom_33 (fun H locs hw => ?_)
        obtain ⟨hz, hd⟩ := ts_z_s hd
        exact ts_iret hx hb hr hlk hz hw hd dT_makeRoom_36
      · replace hd := ts_if_n cq hd
        refine lv_aload_n hx hb dT_makeRoom_8 rfl (lv_at hl 0 rfl) ?_
        refine lv_iload_n hx hb dT_makeRoom_9 rfl (lv_at hl 1 rfl) ?_
        obtain ⟨r10, u10, hq, hd⟩ := ts_b_s hd
        refine cT_161 hc hn hw hq hl.1 ⟨Nat.le_of_ble_eq_true rfl, Nat.le_of_ble_eq_true rfl⟩ (Nat.le_of_ble_eq_true rfl) dT_makeRoom_10 (fun H locs hw => ?_)
        refine lv_if_ne (tgt := 31) hx hb dT_makeRoom_13 (by decide) (fun cq => ?_) (fun cq => ?_)
        · replace hd := ts_if_n cq hd
          refine lv_aload_n hx hb dT_makeRoom_31 rfl (lv_at hl 0 rfl) ?_
          refine lv_iload_n hx hb dT_makeRoom_32 rfl (lv_at hl 1 rfl) ?_
          obtain ⟨r33, u33, hq, hd⟩ := ts_b_s hd
          refine cT_161 hc hn hw hq hl.1 ⟨Nat.le_of_ble_eq_true rfl, Nat.le_of_ble_eq_true rfl⟩ (Nat.le_of_ble_eq_true rfl) dT_makeRoom_33 (fun H locs hw => ?_)
          obtain ⟨hz, hd⟩ := ts_z_s hd
          exact ts_iret hx hb hr hlk hz hw hd dT_makeRoom_36
        · replace hd := ts_if_p cq hd
          refine lv_aload_n hx hb dT_makeRoom_16 rfl (lv_at hl 0 rfl) ?_
          obtain ⟨r17, u17, hq, hd⟩ := ts_b_s hd
          refine cT_109 hc hn hw hq hl.1 ⟨Nat.le_of_ble_eq_true rfl, Nat.le_of_ble_eq_true rfl⟩ (Nat.le_of_ble_eq_true rfl) dT_makeRoom_17 (fun H locs hw => ?_)
          refine lv_if_ne (tgt := 25) hx hb dT_makeRoom_20 (by decide) (fun cq => ?_) (fun cq => ?_)
          · replace hd := ts_if_n cq hd
            refine lv_iinc (v := (x2 + 1)) (lv' := [(2, .int (x2 + 1)), (0, .ref (ad 0)), (1, .int x1)]) hx hb dT_makeRoom_25 hl (k := 2) rfl rfl (by decide) rfl (fun ls hl => ?_)
            refine lv_goto (tgt := 2) hx hb dT_makeRoom_28 (by decide) ?_
            exact ih2 u17 x1 (x2 + 1) _ _ _ hd hw (lv_sub hl [1, 2, 0] rfl)
          · replace hd := ts_if_p cq hd
            refine lv_iconst (v := 0) hx hb dT_makeRoom_23 (by decide) ?_
            exact ts_iret hx hb hr hlk (by decide +kernel) hw hd dT_makeRoom_24
  unfold dt_makeRoom at hd
  refine lv_iconst (v := 0) hx hb dT_makeRoom_0 (by decide) ?_
  refine lv_istore_n (lv' := [(2, .int 0), (0, .ref (ad 0)), (1, .int x1)]) hx hb dT_makeRoom_1 rfl hl (by decide) rfl (fun ls hl => ?_)
  exact L2 40 u x1 0 _ _ _ hd hw (lv_sub hl [1, 2, 0] rfl)
section
variable {p : Program} {l : Launch} {e : Env} {R : Room} {s : State} {m : MethodId} {args : Array Value} {below : List Frame} {meth : Method} {c : Code} {H : Heap} {locs : List Loc} {Q : State → Prop} {cc : ByteArray} {pc nL : Nat} {ls : Array Slot} {rest : List Value} {D : va_G} {ca : Nat → ClassId} {ad : Nat → Nat} {A : Nat → Prop} {u : ts_S} {cells slots : Nat}
theorem cT_69 (hc : CallFix p m c cc nL s args uW RT) (hn : nx s) (hw : ts_W tF D ca ad A s H locs u) {x1 : Int32} {r0 : Int32} {u0 : ts_S} (hq : dt_makeRoom u x1 = some (r0, u0)) (hsz : ls.size = nL) (hR : rT_makeRoom.frames + 1 ≤ R.frames ∧ 8 + (3 + 11) + rT_makeRoom.locals ≤ R.locals) (hrest : (rest.map fun v => v.category).sum ≤ 8) (hdg : decode cc pc = .ok (.invokevirtual 69, 3)) (kk : ∀ (H1 : Heap) (locs1 : List Loc), ts_W tF D ca ad A s H1 locs1 u0 → W p l e R s m args below meth c H1 locs1 0 0 Q (F0 m (pc + 3) ls (.int r0 :: rest))) : W p l e R s m args below meth c H locs 0 0 Q (F0 m pc ls (.int x1 :: .ref (ad 0) :: rest)) :=
  ts_callVi (b := ad 0) (As := [.int x1]) hc hn hw (ct_makeRoom l hq) rfl (cwV 1 hc.2.2.2.2 (gd_V (by decide +kernel) (by decide +kernel) (by decide +kernel) (by decide +kernel) (code_T_makeRoom)) rfl rfl rfl (by decide +kernel) hR) (va_recv hw.2.2.2.1 hw.1 (ci := 1) (q0 := 0) rfl rfl) rfl hsz hrest hdg kk
end
def rT_use : Room := { frames := 0, cells := 0, slots := 0, locals := 0 }
set_option maxHeartbeats 4000000 in
set_option maxRecDepth 100000 in
theorem ct_use (l : Launch) {u : ts_S} {x1 : Int32} {r0 : Int32} {u0 : ts_S} (hd : dt_use u x1 = some (r0, u0)) : ts_Cv tF l yT_use (.code yT_use bT_use 2 none :: uW) rT_use (fun ad => [.ref (ad 0), .int x1]) u u0 := by
  refine ts_in_v tF l (by decide) (fun p e s m args below meth c D ca ad A hc hn hr hlk hw => ?_)
  have hx := hc.1
  have hb := hc.2.1
  have hl := lv_entry ([.ref (ad 0), .int x1]) (n := 2) (Nat.le_of_ble_eq_true rfl)
  rw [lg_entry_eq]
  generalize (lg_sl ([.ref (ad 0), .int x1]) ++ List.replicate (2 - (lg_sl ([.ref (ad 0), .int x1])).length) Slot.unset).toArray = ls at hl ⊢
  replace hl : lv_has ls 2 [(0, .ref (ad 0)), (1, .int x1)] := hl
  unfold dt_use at hd
  refine lv_aload_n hx hb dT_use_0 rfl (lv_at hl 0 rfl) ?_
  refine lv_dup hx hb dT_use_1 rfl ?_
  refine gT_34 hc hn hw dT_use_2 ?_
  refine lv_iconst (v := 1) hx hb dT_use_5 (by decide) ?_
  refine lv_iadd hx hb dT_use_6 ?_
  refine pT_34 hc hn hw dT_use_7 (fun H locs hw => ?_)
  refine lv_aload_n hx hb dT_use_10 rfl (lv_at hl 0 rfl) ?_
  refine gT_31 hc hn hw dT_use_11 ?_
  refine lv_iload_n hx hb dT_use_14 rfl (lv_at hl 1 rfl) ?_
  refine lv_aload_n hx hb dT_use_15 rfl (lv_at hl 0 rfl) ?_
  refine gT_34 hc hn hw dT_use_16 ?_
  obtain ⟨h, hd⟩ := ts_ix_s hd
  refine tt_s8 hc hw h dT_use_19 (fun H locs hw => ?_)
  exact ts_vret hx hb hr hlk hw hd dT_use_20
section
variable {p : Program} {l : Launch} {e : Env} {R : Room} {s : State} {m : MethodId} {args : Array Value} {below : List Frame} {meth : Method} {c : Code} {H : Heap} {locs : List Loc} {Q : State → Prop} {cc : ByteArray} {pc nL : Nat} {ls : Array Slot} {rest : List Value} {D : va_G} {ca : Nat → ClassId} {ad : Nat → Nat} {A : Nat → Prop} {u : ts_S} {cells slots : Nat}
theorem cT_72 (hc : CallFix p m c cc nL s args uW RT) (hn : nx s) (hw : ts_W tF D ca ad A s H locs u) {x1 : Int32} {r0 : Int32} {u0 : ts_S} (hq : dt_use u x1 = some (r0, u0)) (hsz : ls.size = nL) (hR : rT_use.frames + 1 ≤ R.frames ∧ 8 + (2 + 11) + rT_use.locals ≤ R.locals) (hrest : (rest.map fun v => v.category).sum ≤ 8) (hdg : decode cc pc = .ok (.invokevirtual 72, 3)) (kk : ∀ (H1 : Heap) (locs1 : List Loc), ts_W tF D ca ad A s H1 locs1 u0 → W p l e R s m args below meth c H1 locs1 0 0 Q (F0 m (pc + 3) ls rest)) : W p l e R s m args below meth c H locs 0 0 Q (F0 m pc ls (.int x1 :: .ref (ad 0) :: rest)) :=
  ts_callVv (b := ad 0) (As := [.int x1]) hc hn hw (ct_use l hq) rfl (cwV 1 hc.2.2.2.2 (gd_V (by decide +kernel) (by decide +kernel) (by decide +kernel) (by decide +kernel) (code_T_use)) rfl rfl rfl (by decide +kernel) hR) (va_recv hw.2.2.2.1 hw.1 (ci := 1) (q0 := 0) rfl rfl) rfl hsz hrest hdg kk
end
def rT_create : Room := { frames := 4, cells := 0, slots := 0, locals := 86 }
set_option maxHeartbeats 4000000 in
set_option maxRecDepth 100000 in
theorem ct_create (l : Launch) {u : ts_S} {x1 x2 : Int32} {r0 : Int32} {u0 : ts_S} (hd : dt_create u x1 x2 = some (r0, u0)) : ts_Ci tF l yT_create (.code yT_create bT_create 4 (some .int) :: uW) rT_create (fun ad => [.ref (ad 0), .int x1, .int x2]) u r0 u0 := by
  refine ts_in_i tF l (by decide) (fun p e s m args below meth c D ca ad A hc hn hr hlk hw => ?_)
  have hx := hc.1
  have hb := hc.2.1
  have hl := lv_entry ([.ref (ad 0), .int x1, .int x2]) (n := 4) (Nat.le_of_ble_eq_true rfl)
  rw [lg_entry_eq]
  generalize (lg_sl ([.ref (ad 0), .int x1, .int x2]) ++ List.replicate (4 - (lg_sl ([.ref (ad 0), .int x1, .int x2])).length) Slot.unset).toArray = ls at hl ⊢
  replace hl : lv_has ls 4 [(0, .ref (ad 0)), (1, .int x1), (2, .int x2)] := hl
  have L57 : ∀ (n : Nat) (u : ts_S) (x1 x2 x3 : Int32) (H : Heap) (locs : List Loc) (ls : Array Slot), dt_create_57 n u x1 x2 x3 = some (r0, u0) → ts_W tF D ca ad A s H locs u → lv_has ls 4 [(0, .ref (ad 0)), (1, .int x1), (2, .int x2), (3, .int x3)] → W p l e rT_create s m args below meth c H locs 0 0 (MQ below (va_Qi (fun r v => r = r0 ∧ v = u0) (ts_post tF D ca ad A) A) args s 0 0 A) (F0 m 57 ls []) := by
    intro n
    induction n with
    | zero => intro u x1 x2 x3 H locs ls hd; cases (show (none : Option (Int32 × ts_S)) = some (r0, u0) from hd)
    | succ n57 ih57 =>
      intro u x1 x2 x3 H locs ls hd hw hl
      replace hd : dt_create_57_b (dt_create_57 n57) u x1 x2 x3 = some (r0, u0) := hd
      unfold dt_create_57_b at hd
      refine lv_iload_n hx hb dT_create_57 rfl (lv_at hl 3 rfl) ?_
      refine lv_iconst (v := 4) hx hb dT_create_58 (by decide) ?_
      refine lv_icmp_ge (tgt := 77) hx hb dT_create_59 (by decide) (fun cq => ?_) (fun cq => ?_)
      · replace hd := ts_if_p cq hd
        refine lv_aload_n hx hb dT_create_77 rfl (lv_at hl 0 rfl) ?_
        refine lv_iload_n hx hb dT_create_78 rfl (lv_at hl 1 rfl) ?_
        obtain ⟨r79, u79, hq, hd⟩ := ts_b_s hd
        refine cT_72 hc hn hw hq hl.1 ⟨Nat.le_of_ble_eq_true rfl, Nat.le_of_ble_eq_true rfl⟩ (Nat.le_of_ble_eq_true rfl) dT_create_79 (fun H locs hw => ?_)
        refine lv_iconst (v := 0) hx hb dT_create_82 (by decide) ?_
        exact ts_iret hx hb hr hlk (vp_nar_int _) hw hd dT_create_83
      · replace hd := ts_if_n cq hd
        refine lv_aload_n hx hb dT_create_62 rfl (lv_at hl 0 rfl) ?_
        refine gT_18 hc hn hw dT_create_63 ?_
        refine lv_iload_n hx hb dT_create_66 rfl (lv_at hl 1 rfl) ?_
        obtain ⟨hrow, hd⟩ := ts_ix_s hd
        refine tt_aa hc hw hrow dT_create_67 ?_
        refine lv_iload_n hx hb dT_create_68 rfl (lv_at hl 3 rfl) ?_
        refine lv_iconst (v := 0) hx hb dT_create_69 (by decide) ?_
        obtain ⟨h, hd⟩ := ts_ix_s hd
        refine tt_sr hc hw hrow h dT_create_70 (fun H locs hw => ?_)
        refine lv_iinc (v := (x3 + 1)) (lv' := [(3, .int (x3 + 1)), (0, .ref (ad 0)), (1, .int x1), (2, .int x2)]) hx hb dT_create_71 hl (k := 3) rfl rfl (by decide) rfl (fun ls hl => ?_)
        refine lv_goto (tgt := 57) hx hb dT_create_74 (by decide) ?_
        exact ih57 (ts_a (20 + x1.toNatClampNeg) x3.toNatClampNeg 0 u) x1 x2 (x3 + 1) _ _ _ hd hw (lv_sub hl [1, 2, 3, 0] rfl)
  unfold dt_create at hd
  refine lv_iload_n hx hb dT_create_0 rfl (lv_at hl 1 rfl) ?_
  obtain ⟨r1, u1, hq, hd⟩ := ts_b_s hd
  refine cT_65 hc hn hw hq hl.1 ⟨Nat.le_of_ble_eq_true rfl, Nat.le_of_ble_eq_true rfl⟩ (Nat.le_of_ble_eq_true rfl) dT_create_1 (fun H locs hw => ?_)
  refine lv_if_eq (tgt := 17) hx hb dT_create_4 (by decide) (fun cq => ?_) (fun cq => ?_)
  · replace hd := ts_if_p cq hd
    refine lv_iconst (v := (-1)) hx hb dT_create_17 (by decide) ?_
    exact ts_iret hx hb hr hlk (vp_nar_int _) hw hd dT_create_18
  · replace hd := ts_if_n cq hd
    refine lv_iload_n hx hb dT_create_7 rfl (lv_at hl 2 rfl) ?_
    refine lv_iconst (v := 1) hx hb dT_create_8 (by decide) ?_
    refine lv_icmp_lt (tgt := 17) hx hb dT_create_9 (by decide) (fun cq => ?_) (fun cq => ?_)
    · replace hd := ts_if_p cq hd
      refine lv_iconst (v := (-1)) hx hb dT_create_17 (by decide) ?_
      exact ts_iret hx hb hr hlk (vp_nar_int _) hw hd dT_create_18
    · replace hd := ts_if_n cq hd
      refine lv_iload_n hx hb dT_create_12 rfl (lv_at hl 2 rfl) ?_
      refine lv_iconst (v := 4) hx hb dT_create_13 (by decide) ?_
      refine lv_icmp_le (tgt := 19) hx hb dT_create_14 (by decide) (fun cq => ?_) (fun cq => ?_)
      · replace hd := ts_if_p cq hd
        refine lv_aload_n hx hb dT_create_19 rfl (lv_at hl 0 rfl) ?_
        refine gT_9 hc hn hw dT_create_20 ?_
        refine lv_iload_n hx hb dT_create_23 rfl (lv_at hl 1 rfl) ?_
        obtain ⟨h, hd⟩ := ts_ix_s hd
        refine tt_l2 hc hw h dT_create_24 ?_
        refine lv_if_eq (tgt := 30) hx hb dT_create_25 (by decide) (fun cq => ?_) (fun cq => ?_)
        · replace hd := ts_if_p cq hd
          refine lv_aload_n hx hb dT_create_30 rfl (lv_at hl 0 rfl) ?_
          refine lv_iload_n hx hb dT_create_31 rfl (lv_at hl 2 rfl) ?_
          obtain ⟨r32, u32, hq, hd⟩ := ts_b_s hd
          refine cT_69 hc hn hw hq hl.1 ⟨Nat.le_of_ble_eq_true rfl, Nat.le_of_ble_eq_true rfl⟩ (Nat.le_of_ble_eq_true rfl) dT_create_32 (fun H locs hw => ?_)
          refine lv_if_ne (tgt := 41) hx hb dT_create_35 (by decide) (fun cq => ?_) (fun cq => ?_)
          · replace hd := ts_if_n cq hd
            refine lv_aload_n hx hb dT_create_41 rfl (lv_at hl 0 rfl) ?_
            refine gT_9 hc hn hw dT_create_42 ?_
            refine lv_iload_n hx hb dT_create_45 rfl (lv_at hl 1 rfl) ?_
            refine lv_iconst (v := 1) hx hb dT_create_46 (by decide) ?_
            obtain ⟨h, hd⟩ := ts_ix_s hd
            refine tt_s2 hc hw h dT_create_47 (fun H locs hw => ?_)
            refine lv_aload_n hx hb dT_create_48 rfl (lv_at hl 0 rfl) ?_
            refine gT_13 hc hn hw dT_create_49 ?_
            refine lv_iload_n hx hb dT_create_52 rfl (lv_at hl 1 rfl) ?_
            refine lv_iload_n hx hb dT_create_53 rfl (lv_at hl 2 rfl) ?_
            obtain ⟨h, hd⟩ := ts_ix_s hd
            refine tt_s3 hc hw h dT_create_54 (fun H locs hw => ?_)
            refine lv_iconst (v := 0) hx hb dT_create_55 (by decide) ?_
            refine lv_istore_n (lv' := [(3, .int 0), (0, .ref (ad 0)), (1, .int x1), (2, .int x2)]) hx hb dT_create_56 rfl hl (by decide) rfl (fun ls hl => ?_)
            exact L57 40 (ts_a 3 x1.toNatClampNeg x2 (ts_a 2 x1.toNatClampNeg 1 u32)) x1 x2 0 _ _ _ hd hw (lv_sub hl [1, 2, 3, 0] rfl)
          · replace hd := ts_if_p cq hd
            refine lv_bipush (v := (-2)) hx hb dT_create_38 (by decide) ?_
            exact ts_iret hx hb hr hlk (vp_nar_int _) hw hd dT_create_40
        · replace hd := ts_if_n cq hd
          refine lv_iconst (v := (-1)) hx hb dT_create_28 (by decide) ?_
          exact ts_iret hx hb hr hlk (vp_nar_int _) hw hd dT_create_29
      · replace hd := ts_if_n cq hd
        refine lv_iconst (v := (-1)) hx hb dT_create_17 (by decide) ?_
        exact ts_iret hx hb hr hlk (vp_nar_int _) hw hd dT_create_18
def rP_goTo : Room := { frames := 1, cells := 0, slots := 0, locals := 21 }
set_option maxHeartbeats 4000000 in
set_option maxRecDepth 100000 in
theorem cp_goTo (l : Launch) {u : ts_S} {x1 x2 : Int32} {r0 : Int32} {u0 : ts_S} (hd : dp_goTo u x1 x2 = some (r0, u0)) : ts_Cv tF l yP_goTo (.code yP_goTo bP_goTo 3 none :: uW) rP_goTo (fun ad => [.ref (ad 1), .int x1, .int x2]) u u0 := by
  refine ts_in_v tF l (by decide) (fun p e s m args below meth c D ca ad A hc hn hr hlk hw => ?_)
  have hx := hc.1
  have hb := hc.2.1
  have hl := lv_entry ([.ref (ad 1), .int x1, .int x2]) (n := 3) (Nat.le_of_ble_eq_true rfl)
  rw [lg_entry_eq]
  generalize (lg_sl ([.ref (ad 1), .int x1, .int x2]) ++ List.replicate (3 - (lg_sl ([.ref (ad 1), .int x1, .int x2])).length) Slot.unset).toArray = ls at hl ⊢
  replace hl : lv_has ls 3 [(0, .ref (ad 1)), (1, .int x1), (2, .int x2)] := hl
  unfold dp_goTo at hd
  refine lv_aload_n hx hb dP_goTo_0 rfl (lv_at hl 0 rfl) ?_
  refine gP_18 hc hn hw dP_goTo_1 ?_
  refine lv_iload_n hx hb dP_goTo_4 rfl (lv_at hl 1 rfl) ?_
  refine lv_icmp_eq (tgt := 29) hx hb dP_goTo_5 (by decide) (fun cq => ?_) (fun cq => ?_)
  · replace hd := ts_if_p cq hd
    refine lv_aload_n hx hb dP_goTo_29 rfl (lv_at hl 0 rfl) ?_
    refine lv_dup hx hb dP_goTo_30 rfl ?_
    refine gP_25 hc hn hw dP_goTo_31 ?_
    refine lv_aload_n hx hb dP_goTo_34 rfl (lv_at hl 0 rfl) ?_
    refine gP_22 hc hn hw dP_goTo_35 ?_
    refine lv_iload_n hx hb dP_goTo_38 rfl (lv_at hl 2 rfl) ?_
    refine lv_isub hx hb dP_goTo_39 ?_
    refine jm_P_31 hc hl.1 (Nat.le_of_ble_eq_true rfl) (Nat.le_of_ble_eq_true rfl) dP_goTo_40 ?_
    refine lv_iadd hx hb dP_goTo_43 ?_
    refine pP_25 hc hn hw dP_goTo_44 (fun H locs hw => ?_)
    refine lv_aload_n hx hb dP_goTo_47 rfl (lv_at hl 0 rfl) ?_
    refine lv_iload_n hx hb dP_goTo_48 rfl (lv_at hl 2 rfl) ?_
    refine pP_22 hc hn hw dP_goTo_49 (fun H locs hw => ?_)
    exact ts_vret hx hb hr hlk hw hd dP_goTo_52
  · replace hd := ts_if_n cq hd
    refine lv_aload_n hx hb dP_goTo_8 rfl (lv_at hl 0 rfl) ?_
    refine lv_dup hx hb dP_goTo_9 rfl ?_
    refine gP_25 hc hn hw dP_goTo_10 ?_
    refine lv_bipush (v := 20) hx hb dP_goTo_13 (by decide) ?_
    refine lv_iadd hx hb dP_goTo_15 ?_
    refine pP_25 hc hn hw dP_goTo_16 (fun H locs hw => ?_)
    refine lv_aload_n hx hb dP_goTo_19 rfl (lv_at hl 0 rfl) ?_
    refine lv_iload_n hx hb dP_goTo_20 rfl (lv_at hl 1 rfl) ?_
    refine pP_18 hc hn hw dP_goTo_21 (fun H locs hw => ?_)
    refine lv_aload_n hx hb dP_goTo_24 rfl (lv_at hl 0 rfl) ?_
    refine lv_iconst (v := 0) hx hb dP_goTo_25 (by decide) ?_
    refine pP_22 hc hn hw dP_goTo_26 (fun H locs hw => ?_)
    refine lv_aload_n hx hb dP_goTo_29 rfl (lv_at hl 0 rfl) ?_
    refine lv_dup hx hb dP_goTo_30 rfl ?_
    refine gP_25 hc hn hw dP_goTo_31 ?_
    refine lv_aload_n hx hb dP_goTo_34 rfl (lv_at hl 0 rfl) ?_
    refine gP_22 hc hn hw dP_goTo_35 ?_
    refine lv_iload_n hx hb dP_goTo_38 rfl (lv_at hl 2 rfl) ?_
    refine lv_isub hx hb dP_goTo_39 ?_
    refine jm_P_31 hc hl.1 (Nat.le_of_ble_eq_true rfl) (Nat.le_of_ble_eq_true rfl) dP_goTo_40 ?_
    refine lv_iadd hx hb dP_goTo_43 ?_
    refine pP_25 hc hn hw dP_goTo_44 (fun H locs hw => ?_)
    refine lv_aload_n hx hb dP_goTo_47 rfl (lv_at hl 0 rfl) ?_
    refine lv_iload_n hx hb dP_goTo_48 rfl (lv_at hl 2 rfl) ?_
    refine pP_22 hc hn hw dP_goTo_49 (fun H locs hw => ?_)
    exact ts_vret hx hb hr hlk hw hd dP_goTo_52
section
variable {p : Program} {l : Launch} {e : Env} {R : Room} {s : State} {m : MethodId} {args : Array Value} {below : List Frame} {meth : Method} {c : Code} {H : Heap} {locs : List Loc} {Q : State → Prop} {cc : ByteArray} {pc nL : Nat} {ls : Array Slot} {rest : List Value} {D : va_G} {ca : Nat → ClassId} {ad : Nat → Nat} {A : Nat → Prop} {u : ts_S} {cells slots : Nat}
theorem cP_37 (hc : CallFix p m c cc nL s args uW RP) (hn : nx s) (hw : ts_W tF D ca ad A s H locs u) {x1 x2 : Int32} {r0 : Int32} {u0 : ts_S} (hq : dp_goTo u x1 x2 = some (r0, u0)) (hsz : ls.size = nL) (hR : rP_goTo.frames + 1 ≤ R.frames ∧ 8 + (3 + 11) + rP_goTo.locals ≤ R.locals) (hrest : (rest.map fun v => v.category).sum ≤ 8) (hdg : decode cc pc = .ok (.invokevirtual 37, 3)) (kk : ∀ (H1 : Heap) (locs1 : List Loc), ts_W tF D ca ad A s H1 locs1 u0 → W p l e R s m args below meth c H1 locs1 0 0 Q (F0 m (pc + 3) ls rest)) : W p l e R s m args below meth c H locs 0 0 Q (F0 m pc ls (.int x2 :: .int x1 :: .ref (ad 1) :: rest)) :=
  ts_callVv (b := ad 1) (As := [.int x1, .int x2]) hc hn hw (cp_goTo l hq) rfl (cwV 2 hc.2.2.2.2 (gd_V (by decide +kernel) (by decide +kernel) (by decide +kernel) (by decide +kernel) (code_P_goTo)) rfl rfl rfl (by decide +kernel) hR) (va_recv hw.2.2.2.1 hw.1 (ci := 0) (q0 := 1) rfl rfl) rfl hsz hrest hdg kk
end
def rP_pass : Room := { frames := 2, cells := 0, slots := 0, locals := 43 }
set_option maxHeartbeats 4000000 in
set_option maxRecDepth 100000 in
theorem cp_pass (l : Launch) {u : ts_S} {x1 x2 x3 : Int32} {r0 : Int32} {u0 : ts_S} (hd : dp_pass u x1 x2 x3 = some (r0, u0)) : ts_Cv tF l yP_pass (.code yP_pass bP_pass 4 none :: uW) rP_pass (fun ad => [.ref (ad 1), .int x1, .int x2, .int x3]) u u0 := by
  refine ts_in_v tF l (by decide) (fun p e s m args below meth c D ca ad A hc hn hr hlk hw => ?_)
  have hx := hc.1
  have hb := hc.2.1
  have hl := lv_entry ([.ref (ad 1), .int x1, .int x2, .int x3]) (n := 4) (Nat.le_of_ble_eq_true rfl)
  rw [lg_entry_eq]
  generalize (lg_sl ([.ref (ad 1), .int x1, .int x2, .int x3]) ++ List.replicate (4 - (lg_sl ([.ref (ad 1), .int x1, .int x2, .int x3])).length) Slot.unset).toArray = ls at hl ⊢
  replace hl : lv_has ls 4 [(0, .ref (ad 1)), (1, .int x1), (2, .int x2), (3, .int x3)] := hl
  unfold dp_pass at hd
  refine lv_aload_n hx hb dP_pass_0 rfl (lv_at hl 0 rfl) ?_
  refine lv_iload_n hx hb dP_pass_1 rfl (lv_at hl 1 rfl) ?_
  refine lv_iload_n hx hb dP_pass_2 rfl (lv_at hl 2 rfl) ?_
  obtain ⟨r3, u3, hq, hd⟩ := ts_b_s hd
  refine cP_37 hc hn hw hq hl.1 ⟨Nat.le_of_ble_eq_true rfl, Nat.le_of_ble_eq_true rfl⟩ (Nat.le_of_ble_eq_true rfl) dP_pass_3 (fun H locs hw => ?_)
  refine lv_aload_n hx hb dP_pass_6 rfl (lv_at hl 0 rfl) ?_
  refine lv_dup hx hb dP_pass_7 rfl ?_
  refine gP_25 hc hn hw dP_pass_8 ?_
  refine lv_iload_n hx hb dP_pass_11 rfl (lv_at hl 3 rfl) ?_
  refine lv_iadd hx hb dP_pass_12 ?_
  refine pP_25 hc hn hw dP_pass_13 (fun H locs hw => ?_)
  refine lv_aload_n hx hb dP_pass_16 rfl (lv_at hl 0 rfl) ?_
  refine lv_dup hx hb dP_pass_17 rfl ?_
  refine gP_22 hc hn hw dP_pass_18 ?_
  refine lv_iload_n hx hb dP_pass_21 rfl (lv_at hl 3 rfl) ?_
  refine lv_iadd hx hb dP_pass_22 ?_
  refine pP_22 hc hn hw dP_pass_23 (fun H locs hw => ?_)
  exact ts_vret hx hb hr hlk hw hd dP_pass_26
section
variable {p : Program} {l : Launch} {e : Env} {R : Room} {s : State} {m : MethodId} {args : Array Value} {below : List Frame} {meth : Method} {c : Code} {H : Heap} {locs : List Loc} {Q : State → Prop} {cc : ByteArray} {pc nL : Nat} {ls : Array Slot} {rest : List Value} {D : va_G} {ca : Nat → ClassId} {ad : Nat → Nat} {A : Nat → Prop} {u : ts_S} {cells slots : Nat}
theorem cP_41 (hc : CallFix p m c cc nL s args uW RP) (hn : nx s) (hw : ts_W tF D ca ad A s H locs u) {x1 x2 x3 : Int32} {r0 : Int32} {u0 : ts_S} (hq : dp_pass u x1 x2 x3 = some (r0, u0)) (hsz : ls.size = nL) (hR : rP_pass.frames + 1 ≤ R.frames ∧ 8 + (4 + 11) + rP_pass.locals ≤ R.locals) (hrest : (rest.map fun v => v.category).sum ≤ 8) (hdg : decode cc pc = .ok (.invokevirtual 41, 3)) (kk : ∀ (H1 : Heap) (locs1 : List Loc), ts_W tF D ca ad A s H1 locs1 u0 → W p l e R s m args below meth c H1 locs1 0 0 Q (F0 m (pc + 3) ls rest)) : W p l e R s m args below meth c H locs 0 0 Q (F0 m pc ls (.int x3 :: .int x2 :: .int x1 :: .ref (ad 1) :: rest)) :=
  ts_callVv (b := ad 1) (As := [.int x1, .int x2, .int x3]) hc hn hw (cp_pass l hq) rfl (cwV 3 hc.2.2.2.2 (gd_V (by decide +kernel) (by decide +kernel) (by decide +kernel) (by decide +kernel) (code_P_pass)) rfl rfl rfl (by decide +kernel) hR) (va_recv hw.2.2.2.1 hw.1 (ci := 0) (q0 := 1) rfl rfl) rfl hsz hrest hdg kk
theorem cT_164 (hc : CallFix p m c cc nL s args uW RT) (hn : nx s) (hw : ts_W tF D ca ad A s H locs u) {x1 x2 x3 : Int32} {r0 : Int32} {u0 : ts_S} (hq : dp_pass u x1 x2 x3 = some (r0, u0)) (hsz : ls.size = nL) (hR : rP_pass.frames + 1 ≤ R.frames ∧ 8 + (4 + 11) + rP_pass.locals ≤ R.locals) (hrest : (rest.map fun v => v.category).sum ≤ 8) (hdg : decode cc pc = .ok (.invokevirtual 164, 3)) (kk : ∀ (H1 : Heap) (locs1 : List Loc), ts_W tF D ca ad A s H1 locs1 u0 → W p l e R s m args below meth c H1 locs1 0 0 Q (F0 m (pc + 3) ls rest)) : W p l e R s m args below meth c H locs 0 0 Q (F0 m pc ls (.int x3 :: .int x2 :: .int x1 :: .ref (ad 1) :: rest)) :=
  ts_callNv (b := ad 1) (As := [.int x1, .int x2, .int x3]) hc hn hw (cp_pass l hq) rfl ⟨va_cnB 3 hc.2.2.2.2 (gd_N (code_P_pass)) rfl rfl rfl (hn (.methodLinkNest RT 164 yP_pass "TierStore") (by decide +kernel)) (hc.2.2.2.2 (.initialized RP) (by decide +kernel)) (by decide +kernel) hR, hc.2.2.2.2 (.instanceMethod yP_pass) (by decide +kernel), hc.2.2.2.2 (.selects RP yP_pass yP_pass) (by decide +kernel)⟩ (va_recv hw.2.2.2.1 hw.1 (ci := 0) (q0 := 1) rfl rfl) rfl hsz hrest hdg kk
end
def rT_bringToDisk : Room := { frames := 4, cells := 0, slots := 0, locals := 86 }
set_option maxHeartbeats 4000000 in
set_option maxRecDepth 100000 in
theorem ct_bringToDisk (l : Launch) {u : ts_S} {x1 : Int32} {r0 : Int32} {u0 : ts_S} (hd : dt_bringToDisk u x1 = some (r0, u0)) : ts_Ci tF l yT_bringToDisk (.code yT_bringToDisk bT_bringToDisk 2 (some .boolean) :: uW) rT_bringToDisk (fun ad => [.ref (ad 0), .int x1]) u r0 u0 := by
  refine ts_in_i tF l (by decide) (fun p e s m args below meth c D ca ad A hc hn hr hlk hw => ?_)
  have hx := hc.1
  have hb := hc.2.1
  have hl := lv_entry ([.ref (ad 0), .int x1]) (n := 2) (Nat.le_of_ble_eq_true rfl)
  rw [lg_entry_eq]
  generalize (lg_sl ([.ref (ad 0), .int x1]) ++ List.replicate (2 - (lg_sl ([.ref (ad 0), .int x1])).length) Slot.unset).toArray = ls at hl ⊢
  replace hl : lv_has ls 2 [(0, .ref (ad 0)), (1, .int x1)] := hl
  unfold dt_bringToDisk at hd
  refine lv_aload_n hx hb dT_bringToDisk_0 rfl (lv_at hl 0 rfl) ?_
  refine gT_9 hc hn hw dT_bringToDisk_1 ?_
  refine lv_iload_n hx hb dT_bringToDisk_4 rfl (lv_at hl 1 rfl) ?_
  obtain ⟨h, hd⟩ := ts_ix_s hd
  refine tt_l2 hc hw h dT_bringToDisk_5 ?_
  refine lv_iconst (v := 3) hx hb dT_bringToDisk_6 (by decide) ?_
  refine lv_icmp_eq (tgt := 12) hx hb dT_bringToDisk_7 (by decide) (fun cq => ?_) (fun cq => ?_)
  · replace hd := ts_if_p cq hd
    refine lv_aload_n hx hb dT_bringToDisk_12 rfl (lv_at hl 0 rfl) ?_
    refine lv_aload_n hx hb dT_bringToDisk_13 rfl (lv_at hl 0 rfl) ?_
    refine gT_13 hc hn hw dT_bringToDisk_14 ?_
    refine lv_iload_n hx hb dT_bringToDisk_17 rfl (lv_at hl 1 rfl) ?_
    obtain ⟨h, hd⟩ := ts_ix_s hd
    refine tt_l3 hc hw h dT_bringToDisk_18 ?_
    obtain ⟨r19, u19, hq, hd⟩ := ts_b_s hd
    refine cT_69 hc hn hw hq hl.1 ⟨Nat.le_of_ble_eq_true rfl, Nat.le_of_ble_eq_true rfl⟩ (Nat.le_of_ble_eq_true rfl) dT_bringToDisk_19 (fun H locs hw => ?_)
    refine lv_if_ne (tgt := 27) hx hb dT_bringToDisk_22 (by decide) (fun cq => ?_) (fun cq => ?_)
    · replace hd := ts_if_n cq hd
      refine lv_aload_n hx hb dT_bringToDisk_27 rfl (lv_at hl 0 rfl) ?_
      refine gT_61 hc hn hw dT_bringToDisk_28 ?_
      refine lv_aload_n hx hb dT_bringToDisk_31 rfl (lv_at hl 0 rfl) ?_
      refine gT_21 hc hn hw dT_bringToDisk_32 ?_
      refine lv_iload_n hx hb dT_bringToDisk_35 rfl (lv_at hl 1 rfl) ?_
      obtain ⟨h, hd⟩ := ts_ix_s hd
      refine tt_l5 hc hw h dT_bringToDisk_36 ?_
      refine lv_aload_n hx hb dT_bringToDisk_37 rfl (lv_at hl 0 rfl) ?_
      refine gT_24 hc hn hw dT_bringToDisk_38 ?_
      refine lv_iload_n hx hb dT_bringToDisk_41 rfl (lv_at hl 1 rfl) ?_
      obtain ⟨h, hd⟩ := ts_ix_s hd
      refine tt_l6 hc hw h dT_bringToDisk_42 ?_
      refine lv_aload_n hx hb dT_bringToDisk_43 rfl (lv_at hl 0 rfl) ?_
      refine gT_13 hc hn hw dT_bringToDisk_44 ?_
      refine lv_iload_n hx hb dT_bringToDisk_47 rfl (lv_at hl 1 rfl) ?_
      obtain ⟨h, hd⟩ := ts_ix_s hd
      refine tt_l3 hc hw h dT_bringToDisk_48 ?_
      obtain ⟨r49, u49, hq, hd⟩ := ts_b_s hd
      refine cT_164 hc hn hw hq hl.1 ⟨Nat.le_of_ble_eq_true rfl, Nat.le_of_ble_eq_true rfl⟩ (Nat.le_of_ble_eq_true rfl) dT_bringToDisk_49 (fun H locs hw => ?_)
      refine lv_aload_n hx hb dT_bringToDisk_52 rfl (lv_at hl 0 rfl) ?_
      refine gT_9 hc hn hw dT_bringToDisk_53 ?_
      refine lv_iload_n hx hb dT_bringToDisk_56 rfl (lv_at hl 1 rfl) ?_
      refine lv_iconst (v := 2) hx hb dT_bringToDisk_57 (by decide) ?_
      obtain ⟨h, hd⟩ := ts_ix_s hd
      refine tt_s2 hc hw h dT_bringToDisk_58 (fun H locs hw => ?_)
      refine lv_aload_n hx hb dT_bringToDisk_59 rfl (lv_at hl 0 rfl) ?_
      refine lv_iload_n hx hb dT_bringToDisk_60 rfl (lv_at hl 1 rfl) ?_
      obtain ⟨r61, u61, hq, hd⟩ := ts_b_s hd
      refine cT_72 hc hn hw hq hl.1 ⟨Nat.le_of_ble_eq_true rfl, Nat.le_of_ble_eq_true rfl⟩ (Nat.le_of_ble_eq_true rfl) dT_bringToDisk_61 (fun H locs hw => ?_)
      refine lv_iconst (v := 1) hx hb dT_bringToDisk_64 (by decide) ?_
      exact ts_iret hx hb hr hlk (by decide +kernel) hw hd dT_bringToDisk_65
    · replace hd := ts_if_p cq hd
      refine lv_iconst (v := 0) hx hb dT_bringToDisk_25 (by decide) ?_
      exact ts_iret hx hb hr hlk (by decide +kernel) hw hd dT_bringToDisk_26
  · replace hd := ts_if_n cq hd
    refine lv_iconst (v := 1) hx hb dT_bringToDisk_10 (by decide) ?_
    exact ts_iret hx hb hr hlk (by decide +kernel) hw hd dT_bringToDisk_11
section
variable {p : Program} {l : Launch} {e : Env} {R : Room} {s : State} {m : MethodId} {args : Array Value} {below : List Frame} {meth : Method} {c : Code} {H : Heap} {locs : List Loc} {Q : State → Prop} {cc : ByteArray} {pc nL : Nat} {ls : Array Slot} {rest : List Value} {D : va_G} {ca : Nat → ClassId} {ad : Nat → Nat} {A : Nat → Prop} {u : ts_S} {cells slots : Nat}
theorem cT_79 (hc : CallFix p m c cc nL s args uW RT) (hn : nx s) (hw : ts_W tF D ca ad A s H locs u) {x1 : Int32} {r0 : Int32} {u0 : ts_S} (hq : dt_bringToDisk u x1 = some (r0, u0)) (hsz : ls.size = nL) (hR : rT_bringToDisk.frames + 1 ≤ R.frames ∧ 8 + (2 + 11) + rT_bringToDisk.locals ≤ R.locals) (hrest : (rest.map fun v => v.category).sum ≤ 8) (hdg : decode cc pc = .ok (.invokevirtual 79, 3)) (kk : ∀ (H1 : Heap) (locs1 : List Loc), ts_W tF D ca ad A s H1 locs1 u0 → W p l e R s m args below meth c H1 locs1 0 0 Q (F0 m (pc + 3) ls (.int r0 :: rest))) : W p l e R s m args below meth c H locs 0 0 Q (F0 m pc ls (.int x1 :: .ref (ad 0) :: rest)) :=
  ts_callVi (b := ad 0) (As := [.int x1]) hc hn hw (ct_bringToDisk l hq) rfl (cwV 1 hc.2.2.2.2 (gd_V (by decide +kernel) (by decide +kernel) (by decide +kernel) (by decide +kernel) (code_T_bringToDisk)) rfl rfl rfl (by decide +kernel) hR) (va_recv hw.2.2.2.1 hw.1 (ci := 1) (q0 := 0) rfl rfl) rfl hsz hrest hdg kk
end
def rT_isPresent : Room := { frames := 1, cells := 0, slots := 0, locals := 20 }
set_option maxHeartbeats 4000000 in
set_option maxRecDepth 100000 in
theorem ct_isPresent (l : Launch) {u : ts_S} {x1 : Int32} {r0 : Int32} {u0 : ts_S} (hd : dt_isPresent u x1 = some (r0, u0)) : ts_Ci tF l yT_isPresent (.code yT_isPresent bT_isPresent 2 (some .boolean) :: uW) rT_isPresent (fun ad => [.ref (ad 0), .int x1]) u r0 u0 := by
  refine ts_in_i tF l (by decide) (fun p e s m args below meth c D ca ad A hc hn hr hlk hw => ?_)
  have hx := hc.1
  have hb := hc.2.1
  have hl := lv_entry ([.ref (ad 0), .int x1]) (n := 2) (Nat.le_of_ble_eq_true rfl)
  rw [lg_entry_eq]
  generalize (lg_sl ([.ref (ad 0), .int x1]) ++ List.replicate (2 - (lg_sl ([.ref (ad 0), .int x1])).length) Slot.unset).toArray = ls at hl ⊢
  replace hl : lv_has ls 2 [(0, .ref (ad 0)), (1, .int x1)] := hl
  unfold dt_isPresent at hd
  refine lv_iload_n hx hb dT_isPresent_0 rfl (lv_at hl 1 rfl) ?_
  obtain ⟨r1, u1, hq, hd⟩ := ts_b_s hd
  refine cT_65 hc hn hw hq hl.1 ⟨Nat.le_of_ble_eq_true rfl, Nat.le_of_ble_eq_true rfl⟩ (Nat.le_of_ble_eq_true rfl) dT_isPresent_1 (fun H locs hw => ?_)
  refine lv_if_eq (tgt := 20) hx hb dT_isPresent_4 (by decide) (fun cq => ?_) (fun cq => ?_)
  · replace hd := ts_if_p cq hd
    refine lv_iconst (v := 0) hx hb dT_isPresent_20 (by decide) ?_
    exact ts_iret hx hb hr hlk (by decide +kernel) hw hd dT_isPresent_21
  · replace hd := ts_if_n cq hd
    refine lv_aload_n hx hb dT_isPresent_7 rfl (lv_at hl 0 rfl) ?_
    refine gT_9 hc hn hw dT_isPresent_8 ?_
    refine lv_iload_n hx hb dT_isPresent_11 rfl (lv_at hl 1 rfl) ?_
    obtain ⟨h, hd⟩ := ts_ix_s hd
    refine tt_l2 hc hw h dT_isPresent_12 ?_
    refine lv_if_eq (tgt := 20) hx hb dT_isPresent_13 (by decide) (fun cq => ?_) (fun cq => ?_)
    · replace hd := ts_if_p cq hd
      refine lv_iconst (v := 0) hx hb dT_isPresent_20 (by decide) ?_
      exact ts_iret hx hb hr hlk (by decide +kernel) hw hd dT_isPresent_21
    · replace hd := ts_if_n cq hd
      refine lv_iconst (v := 1) hx hb dT_isPresent_16 (by decide) ?_
      refine lv_goto (tgt := 21) hx hb dT_isPresent_17 (by decide) ?_
      exact ts_iret hx hb hr hlk (by decide +kernel) hw hd dT_isPresent_21
section
variable {p : Program} {l : Launch} {e : Env} {R : Room} {s : State} {m : MethodId} {args : Array Value} {below : List Frame} {meth : Method} {c : Code} {H : Heap} {locs : List Loc} {Q : State → Prop} {cc : ByteArray} {pc nL : Nat} {ls : Array Slot} {rest : List Value} {D : va_G} {ca : Nat → ClassId} {ad : Nat → Nat} {A : Nat → Prop} {u : ts_S} {cells slots : Nat}
theorem cT_88 (hc : CallFix p m c cc nL s args uW RT) (hn : nx s) (hw : ts_W tF D ca ad A s H locs u) {x1 : Int32} {r0 : Int32} {u0 : ts_S} (hq : dt_isPresent u x1 = some (r0, u0)) (hsz : ls.size = nL) (hR : rT_isPresent.frames + 1 ≤ R.frames ∧ 8 + (2 + 11) + rT_isPresent.locals ≤ R.locals) (hrest : (rest.map fun v => v.category).sum ≤ 8) (hdg : decode cc pc = .ok (.invokevirtual 88, 3)) (kk : ∀ (H1 : Heap) (locs1 : List Loc), ts_W tF D ca ad A s H1 locs1 u0 → W p l e R s m args below meth c H1 locs1 0 0 Q (F0 m (pc + 3) ls (.int r0 :: rest))) : W p l e R s m args below meth c H locs 0 0 Q (F0 m pc ls (.int x1 :: .ref (ad 0) :: rest)) :=
  ts_callVi (b := ad 0) (As := [.int x1]) hc hn hw (ct_isPresent l hq) rfl (cwV 1 hc.2.2.2.2 (gd_V (by decide +kernel) (by decide +kernel) (by decide +kernel) (by decide +kernel) (code_T_isPresent)) rfl rfl rfl (by decide +kernel) hR) (va_recv hw.2.2.2.1 hw.1 (ci := 1) (q0 := 0) rfl rfl) rfl hsz hrest hdg kk
end
def rT_isCell : Room := { frames := 2, cells := 0, slots := 0, locals := 41 }
set_option maxHeartbeats 4000000 in
set_option maxRecDepth 100000 in
theorem ct_isCell (l : Launch) {u : ts_S} {x1 x2 : Int32} {r0 : Int32} {u0 : ts_S} (hd : dt_isCell u x1 x2 = some (r0, u0)) : ts_Ci tF l yT_isCell (.code yT_isCell bT_isCell 3 (some .boolean) :: uW) rT_isCell (fun ad => [.ref (ad 0), .int x1, .int x2]) u r0 u0 := by
  refine ts_in_i tF l (by decide) (fun p e s m args below meth c D ca ad A hc hn hr hlk hw => ?_)
  have hx := hc.1
  have hb := hc.2.1
  have hl := lv_entry ([.ref (ad 0), .int x1, .int x2]) (n := 3) (Nat.le_of_ble_eq_true rfl)
  rw [lg_entry_eq]
  generalize (lg_sl ([.ref (ad 0), .int x1, .int x2]) ++ List.replicate (3 - (lg_sl ([.ref (ad 0), .int x1, .int x2])).length) Slot.unset).toArray = ls at hl ⊢
  replace hl : lv_has ls 3 [(0, .ref (ad 0)), (1, .int x1), (2, .int x2)] := hl
  unfold dt_isCell at hd
  refine lv_aload_n hx hb dT_isCell_0 rfl (lv_at hl 0 rfl) ?_
  refine lv_iload_n hx hb dT_isCell_1 rfl (lv_at hl 1 rfl) ?_
  obtain ⟨r2, u2, hq, hd⟩ := ts_b_s hd
  refine cT_88 hc hn hw hq hl.1 ⟨Nat.le_of_ble_eq_true rfl, Nat.le_of_ble_eq_true rfl⟩ (Nat.le_of_ble_eq_true rfl) dT_isCell_2 (fun H locs hw => ?_)
  refine lv_if_eq (tgt := 26) hx hb dT_isCell_5 (by decide) (fun cq => ?_) (fun cq => ?_)
  · replace hd := ts_if_p cq hd
    refine lv_iconst (v := 0) hx hb dT_isCell_26 (by decide) ?_
    exact ts_iret hx hb hr hlk (by decide +kernel) hw hd dT_isCell_27
  · replace hd := ts_if_n cq hd
    refine lv_iload_n hx hb dT_isCell_8 rfl (lv_at hl 2 rfl) ?_
    refine lv_if_lt (tgt := 26) hx hb dT_isCell_9 (by decide) (fun cq => ?_) (fun cq => ?_)
    · replace hd := ts_if_p cq hd
      refine lv_iconst (v := 0) hx hb dT_isCell_26 (by decide) ?_
      exact ts_iret hx hb hr hlk (by decide +kernel) hw hd dT_isCell_27
    · replace hd := ts_if_n cq hd
      refine lv_iload_n hx hb dT_isCell_12 rfl (lv_at hl 2 rfl) ?_
      refine lv_aload_n hx hb dT_isCell_13 rfl (lv_at hl 0 rfl) ?_
      refine gT_13 hc hn hw dT_isCell_14 ?_
      refine lv_iload_n hx hb dT_isCell_17 rfl (lv_at hl 1 rfl) ?_
      obtain ⟨h, hd⟩ := ts_ix_s hd
      refine tt_l3 hc hw h dT_isCell_18 ?_
      refine lv_icmp_ge (tgt := 26) hx hb dT_isCell_19 (by decide) (fun cq => ?_) (fun cq => ?_)
      · replace hd := ts_if_p cq hd
        refine lv_iconst (v := 0) hx hb dT_isCell_26 (by decide) ?_
        exact ts_iret hx hb hr hlk (by decide +kernel) hw hd dT_isCell_27
      · replace hd := ts_if_n cq hd
        refine lv_iconst (v := 1) hx hb dT_isCell_22 (by decide) ?_
        refine lv_goto (tgt := 27) hx hb dT_isCell_23 (by decide) ?_
        exact ts_iret hx hb hr hlk (by decide +kernel) hw hd dT_isCell_27
section
variable {p : Program} {l : Launch} {e : Env} {R : Room} {s : State} {m : MethodId} {args : Array Value} {below : List Frame} {meth : Method} {c : Code} {H : Heap} {locs : List Loc} {Q : State → Prop} {cc : ByteArray} {pc nL : Nat} {ls : Array Slot} {rest : List Value} {D : va_G} {ca : Nat → ClassId} {ad : Nat → Nat} {A : Nat → Prop} {u : ts_S} {cells slots : Nat}
theorem cT_75 (hc : CallFix p m c cc nL s args uW RT) (hn : nx s) (hw : ts_W tF D ca ad A s H locs u) {x1 x2 : Int32} {r0 : Int32} {u0 : ts_S} (hq : dt_isCell u x1 x2 = some (r0, u0)) (hsz : ls.size = nL) (hR : rT_isCell.frames + 1 ≤ R.frames ∧ 8 + (3 + 11) + rT_isCell.locals ≤ R.locals) (hrest : (rest.map fun v => v.category).sum ≤ 8) (hdg : decode cc pc = .ok (.invokevirtual 75, 3)) (kk : ∀ (H1 : Heap) (locs1 : List Loc), ts_W tF D ca ad A s H1 locs1 u0 → W p l e R s m args below meth c H1 locs1 0 0 Q (F0 m (pc + 3) ls (.int r0 :: rest))) : W p l e R s m args below meth c H locs 0 0 Q (F0 m pc ls (.int x2 :: .int x1 :: .ref (ad 0) :: rest)) :=
  ts_callVi (b := ad 0) (As := [.int x1, .int x2]) hc hn hw (ct_isCell l hq) rfl (cwV 2 hc.2.2.2.2 (gd_V (by decide +kernel) (by decide +kernel) (by decide +kernel) (by decide +kernel) (code_T_isCell)) rfl rfl rfl (by decide +kernel) hR) (va_recv hw.2.2.2.1 hw.1 (ci := 1) (q0 := 0) rfl rfl) rfl hsz hrest hdg kk
end
def rT_write : Room := { frames := 5, cells := 0, slots := 0, locals := 107 }
set_option maxHeartbeats 4000000 in
set_option maxRecDepth 100000 in
theorem ct_write (l : Launch) {u : ts_S} {x1 x2 x3 : Int32} {r0 : Int32} {u0 : ts_S} (hd : dt_write u x1 x2 x3 = some (r0, u0)) : ts_Ci tF l yT_write (.code yT_write bT_write 4 (some .int) :: uW) rT_write (fun ad => [.ref (ad 0), .int x1, .int x2, .int x3]) u r0 u0 := by
  refine ts_in_i tF l (by decide) (fun p e s m args below meth c D ca ad A hc hn hr hlk hw => ?_)
  have hx := hc.1
  have hb := hc.2.1
  have hl := lv_entry ([.ref (ad 0), .int x1, .int x2, .int x3]) (n := 4) (Nat.le_of_ble_eq_true rfl)
  rw [lg_entry_eq]
  generalize (lg_sl ([.ref (ad 0), .int x1, .int x2, .int x3]) ++ List.replicate (4 - (lg_sl ([.ref (ad 0), .int x1, .int x2, .int x3])).length) Slot.unset).toArray = ls at hl ⊢
  replace hl : lv_has ls 4 [(0, .ref (ad 0)), (1, .int x1), (2, .int x2), (3, .int x3)] := hl
  unfold dt_write at hd
  refine lv_aload_n hx hb dT_write_0 rfl (lv_at hl 0 rfl) ?_
  refine lv_iload_n hx hb dT_write_1 rfl (lv_at hl 1 rfl) ?_
  refine lv_iload_n hx hb dT_write_2 rfl (lv_at hl 2 rfl) ?_
  obtain ⟨r3, u3, hq, hd⟩ := ts_b_s hd
  refine cT_75 hc hn hw hq hl.1 ⟨Nat.le_of_ble_eq_true rfl, Nat.le_of_ble_eq_true rfl⟩ (Nat.le_of_ble_eq_true rfl) dT_write_3 (fun H locs hw => ?_)
  refine lv_if_ne (tgt := 11) hx hb dT_write_6 (by decide) (fun cq => ?_) (fun cq => ?_)
  · replace hd := ts_if_n cq hd
    refine lv_aload_n hx hb dT_write_11 rfl (lv_at hl 0 rfl) ?_
    refine gT_9 hc hn hw dT_write_12 ?_
    refine lv_iload_n hx hb dT_write_15 rfl (lv_at hl 1 rfl) ?_
    obtain ⟨h, hd⟩ := ts_ix_s hd
    refine tt_l2 hc hw h dT_write_16 ?_
    refine lv_iconst (v := 4) hx hb dT_write_17 (by decide) ?_
    refine lv_icmp_ne (tgt := 24) hx hb dT_write_18 (by decide) (fun cq => ?_) (fun cq => ?_)
    · replace hd := ts_if_n cq hd
      refine lv_aload_n hx hb dT_write_24 rfl (lv_at hl 0 rfl) ?_
      refine lv_iload_n hx hb dT_write_25 rfl (lv_at hl 1 rfl) ?_
      obtain ⟨r26, u26, hq, hd⟩ := ts_b_s hd
      refine cT_79 hc hn hw hq hl.1 ⟨Nat.le_of_ble_eq_true rfl, Nat.le_of_ble_eq_true rfl⟩ (Nat.le_of_ble_eq_true rfl) dT_write_26 (fun H locs hw => ?_)
      refine lv_if_ne (tgt := 35) hx hb dT_write_29 (by decide) (fun cq => ?_) (fun cq => ?_)
      · replace hd := ts_if_n cq hd
        refine lv_aload_n hx hb dT_write_35 rfl (lv_at hl 0 rfl) ?_
        refine gT_18 hc hn hw dT_write_36 ?_
        refine lv_iload_n hx hb dT_write_39 rfl (lv_at hl 1 rfl) ?_
        obtain ⟨hrow, hd⟩ := ts_ix_s hd
        refine tt_aa hc hw hrow dT_write_40 ?_
        refine lv_iload_n hx hb dT_write_41 rfl (lv_at hl 2 rfl) ?_
        refine lv_iload_n hx hb dT_write_42 rfl (lv_at hl 3 rfl) ?_
        obtain ⟨h, hd⟩ := ts_ix_s hd
        refine tt_sr hc hw hrow h dT_write_43 (fun H locs hw => ?_)
        refine lv_aload_n hx hb dT_write_44 rfl (lv_at hl 0 rfl) ?_
        refine gT_9 hc hn hw dT_write_45 ?_
        refine lv_iload_n hx hb dT_write_48 rfl (lv_at hl 1 rfl) ?_
        refine lv_iconst (v := 1) hx hb dT_write_49 (by decide) ?_
        obtain ⟨h, hd⟩ := ts_ix_s hd
        refine tt_s2 hc hw h dT_write_50 (fun H locs hw => ?_)
        refine lv_aload_n hx hb dT_write_51 rfl (lv_at hl 0 rfl) ?_
        refine lv_iload_n hx hb dT_write_52 rfl (lv_at hl 1 rfl) ?_
        obtain ⟨r53, u53, hq, hd⟩ := ts_b_s hd
        refine cT_72 hc hn hw hq hl.1 ⟨Nat.le_of_ble_eq_true rfl, Nat.le_of_ble_eq_true rfl⟩ (Nat.le_of_ble_eq_true rfl) dT_write_53 (fun H locs hw => ?_)
        refine lv_iconst (v := 0) hx hb dT_write_56 (by decide) ?_
        exact ts_iret hx hb hr hlk (vp_nar_int _) hw hd dT_write_57
      · replace hd := ts_if_p cq hd
        refine lv_bipush (v := (-2)) hx hb dT_write_32 (by decide) ?_
        exact ts_iret hx hb hr hlk (vp_nar_int _) hw hd dT_write_34
    · replace hd := ts_if_p cq hd
      refine lv_bipush (v := (-3)) hx hb dT_write_21 (by decide) ?_
      exact ts_iret hx hb hr hlk (vp_nar_int _) hw hd dT_write_23
  · replace hd := ts_if_p cq hd
    refine lv_iconst (v := (-1)) hx hb dT_write_9 (by decide) ?_
    exact ts_iret hx hb hr hlk (vp_nar_int _) hw hd dT_write_10
def rT_read : Room := { frames := 5, cells := 0, slots := 0, locals := 107 }
set_option maxHeartbeats 4000000 in
set_option maxRecDepth 100000 in
theorem ct_read (l : Launch) {u : ts_S} {x1 x2 : Int32} {r0 : Int64} {u0 : ts_S} (hd : dt_read u x1 x2 = some (r0, u0)) : ts_Cl tF l yT_read (.code yT_read bT_read 3 (some .long) :: uW) rT_read (fun ad => [.ref (ad 0), .int x1, .int x2]) u r0 u0 := by
  refine ts_in_l tF l (by decide) (fun p e s m args below meth c D ca ad A hc hn hr hlk hw => ?_)
  have hx := hc.1
  have hb := hc.2.1
  have hl := lv_entry ([.ref (ad 0), .int x1, .int x2]) (n := 3) (Nat.le_of_ble_eq_true rfl)
  rw [lg_entry_eq]
  generalize (lg_sl ([.ref (ad 0), .int x1, .int x2]) ++ List.replicate (3 - (lg_sl ([.ref (ad 0), .int x1, .int x2])).length) Slot.unset).toArray = ls at hl ⊢
  replace hl : lv_has ls 3 [(0, .ref (ad 0)), (1, .int x1), (2, .int x2)] := hl
  unfold dt_read at hd
  refine lv_aload_n hx hb dT_read_0 rfl (lv_at hl 0 rfl) ?_
  refine lv_iload_n hx hb dT_read_1 rfl (lv_at hl 1 rfl) ?_
  refine lv_iload_n hx hb dT_read_2 rfl (lv_at hl 2 rfl) ?_
  obtain ⟨r3, u3, hq, hd⟩ := ts_b_s hd
  refine cT_75 hc hn hw hq hl.1 ⟨Nat.le_of_ble_eq_true rfl, Nat.le_of_ble_eq_true rfl⟩ (Nat.le_of_ble_eq_true rfl) dT_read_3 (fun H locs hw => ?_)
  refine lv_if_ne (tgt := 13) hx hb dT_read_6 (by decide) (fun cq => ?_) (fun cq => ?_)
  · replace hd := ts_if_n cq hd
    refine lv_aload_n hx hb dT_read_13 rfl (lv_at hl 0 rfl) ?_
    refine gT_9 hc hn hw dT_read_14 ?_
    refine lv_iload_n hx hb dT_read_17 rfl (lv_at hl 1 rfl) ?_
    obtain ⟨h, hd⟩ := ts_ix_s hd
    refine tt_l2 hc hw h dT_read_18 ?_
    refine lv_iconst (v := 4) hx hb dT_read_19 (by decide) ?_
    refine lv_icmp_ne (tgt := 27) hx hb dT_read_20 (by decide) (fun cq => ?_) (fun cq => ?_)
    · replace hd := ts_if_n cq hd
      refine lv_aload_n hx hb dT_read_27 rfl (lv_at hl 0 rfl) ?_
      refine lv_iload_n hx hb dT_read_28 rfl (lv_at hl 1 rfl) ?_
      obtain ⟨r29, u29, hq, hd⟩ := ts_b_s hd
      refine cT_79 hc hn hw hq hl.1 ⟨Nat.le_of_ble_eq_true rfl, Nat.le_of_ble_eq_true rfl⟩ (Nat.le_of_ble_eq_true rfl) dT_read_29 (fun H locs hw => ?_)
      refine lv_if_ne (tgt := 39) hx hb dT_read_32 (by decide) (fun cq => ?_) (fun cq => ?_)
      · replace hd := ts_if_n cq hd
        refine lv_aload_n hx hb dT_read_39 rfl (lv_at hl 0 rfl) ?_
        refine lv_iload_n hx hb dT_read_40 rfl (lv_at hl 1 rfl) ?_
        obtain ⟨r41, u41, hq, hd⟩ := ts_b_s hd
        refine cT_72 hc hn hw hq hl.1 ⟨Nat.le_of_ble_eq_true rfl, Nat.le_of_ble_eq_true rfl⟩ (Nat.le_of_ble_eq_true rfl) dT_read_41 (fun H locs hw => ?_)
        refine lv_aload_n hx hb dT_read_44 rfl (lv_at hl 0 rfl) ?_
        refine gT_18 hc hn hw dT_read_45 ?_
        refine lv_iload_n hx hb dT_read_48 rfl (lv_at hl 1 rfl) ?_
        obtain ⟨hrow, hd⟩ := ts_ix_s hd
        refine tt_aa hc hw hrow dT_read_49 ?_
        refine lv_iload_n hx hb dT_read_50 rfl (lv_at hl 2 rfl) ?_
        obtain ⟨h, hd⟩ := ts_ix_s hd
        refine tt_lr hc hw hrow h dT_read_51 ?_
        refine lv_i2l hx hb dT_read_52 rfl ?_
        exact ts_lret hx hb hr hlk hw hd dT_read_53
      · replace hd := ts_if_p cq hd
        refine lv_ldc2 (v := (-2000000000000)) hx hb hc.2.2.2.1 (hc.2.2.2.2 _ (kT_86)) dT_read_35 ?_
        exact ts_lret hx hb hr hlk hw hd dT_read_38
    · replace hd := ts_if_p cq hd
      refine lv_ldc2 (v := (-3000000000000)) hx hb hc.2.2.2.1 (hc.2.2.2.2 _ (kT_84)) dT_read_23 ?_
      exact ts_lret hx hb hr hlk hw hd dT_read_26
  · replace hd := ts_if_p cq hd
    refine lv_ldc2 (v := (-1000000000000)) hx hb hc.2.2.2.1 (hc.2.2.2.2 _ (kT_82)) dT_read_9 ?_
    exact ts_lret hx hb hr hlk hw hd dT_read_12
