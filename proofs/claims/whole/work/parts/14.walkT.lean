def rT_listWaitingStubs : Room := { frames := 4, cells := 0, slots := 0, locals := 89 }
set_option maxHeartbeats 4000000 in
set_option maxRecDepth 100000 in
theorem ct_listWaitingStubs (l : Launch) {u : ts_S} {r0 : Int32} {u0 : ts_S} (hd : dt_listWaitingStubs u = some (r0, u0)) : ts_Cv tF l yT_listWaitingStubs (.code yT_listWaitingStubs bT_listWaitingStubs 3 none :: uW) rT_listWaitingStubs (fun ad => [.ref (ad 0)]) u u0 := by
  refine ts_in_v tF l (by decide) (fun p e s m args below meth c D ca ad A hc hn hr hlk hw => ?_)
  have hx := hc.1
  have hb := hc.2.1
  have hl := lv_entry ([.ref (ad 0)]) (n := 3) (Nat.le_of_ble_eq_true rfl)
  rw [lg_entry_eq]
  generalize (lg_sl ([.ref (ad 0)]) ++ List.replicate (3 - (lg_sl ([.ref (ad 0)])).length) Slot.unset).toArray = ls at hl ⊢
  replace hl : lv_has ls 3 [(0, .ref (ad 0))] := hl
  have L25 : ∀ (n : Nat) (u : ts_S) (x1 x2 : Int32) (H : Heap) (locs : List Loc) (ls : Array Slot), dt_listWaitingStubs_25 n u x1 x2 = some (r0, u0) → ts_W tF D ca ad A s H locs u → lv_has ls 3 [(0, .ref (ad 0)), (1, .int x1), (2, .int x2)] → W p l e rT_listWaitingStubs s m args below meth c H locs 0 0 (MQ below (va_Qv (fun v => v = u0) (ts_post tF D ca ad A) A) args s 0 0 A) (F0 m 25 ls []) := by
    intro n
    induction n with
    | zero => intro u x1 x2 H locs ls hd; cases (show (none : Option (Int32 × ts_S)) = some (r0, u0) from hd)
    | succ n25 ih25 =>
      intro u x1 x2 H locs ls hd hw hl
      replace hd : dt_listWaitingStubs_25_b (dt_listWaitingStubs_25 n25) u x1 x2 = some (r0, u0) := hd
      unfold dt_listWaitingStubs_25_b at hd
      refine lv_iload_n hx hb dT_listWaitingStubs_25 rfl (lv_at hl 2 rfl) ?_
      refine lv_iconst (v := 4) hx hb dT_listWaitingStubs_26 (by decide) ?_
      refine lv_icmp_ge (tgt := 46) hx hb dT_listWaitingStubs_27 (by decide) (fun cq => ?_) (fun cq => ?_)
      · replace hd := ts_if_p cq hd
        refine lv_aload_n hx hb dT_listWaitingStubs_46 rfl (lv_at hl 0 rfl) ?_
        obtain ⟨r47, u47, hq, hd⟩ := ts_b_s hd
        refine cT_177 hc hn hw hq hl.1 ⟨Nat.le_of_ble_eq_true rfl, Nat.le_of_ble_eq_true rfl⟩ (Nat.le_of_ble_eq_true rfl) dT_listWaitingStubs_47 (fun H locs hw => ?_)
        exact ts_vret hx hb hr hlk hw hd dT_listWaitingStubs_50
      · replace hd := ts_if_n cq hd
        refine lv_iload_n hx hb dT_listWaitingStubs_30 rfl (lv_at hl 2 rfl) ?_
        refine lv_iload_n hx hb dT_listWaitingStubs_31 rfl (lv_at hl 1 rfl) ?_
        refine lv_icmp_eq (tgt := 40) hx hb dT_listWaitingStubs_32 (by decide) (fun cq => ?_) (fun cq => ?_)
        · replace hd := ts_if_p cq hd
          refine lv_iinc (v := (x2 + 1)) (lv' := [(2, .int (x2 + 1)), (0, .ref (ad 0)), (1, .int x1)]) hx hb dT_listWaitingStubs_40 hl (k := 2) rfl rfl (by decide) rfl (fun ls hl => ?_)
          refine lv_goto (tgt := 25) hx hb dT_listWaitingStubs_43 (by decide) ?_
          exact ih25 u x1 (x2 + 1) _ _ _ hd hw (lv_sub hl [1, 2, 0] rfl)
        · replace hd := ts_if_n cq hd
          refine lv_aload_n hx hb dT_listWaitingStubs_35 rfl (lv_at hl 0 rfl) ?_
          refine lv_iload_n hx hb dT_listWaitingStubs_36 rfl (lv_at hl 2 rfl) ?_
          obtain ⟨r37, u37, hq, hd⟩ := ts_b_s hd
          refine cT_122 hc hn hw hq hl.1 ⟨Nat.le_of_ble_eq_true rfl, Nat.le_of_ble_eq_true rfl⟩ (Nat.le_of_ble_eq_true rfl) dT_listWaitingStubs_37 (fun H locs hw => ?_)
          refine lv_iinc (v := (x2 + 1)) (lv' := [(2, .int (x2 + 1)), (0, .ref (ad 0)), (1, .int x1)]) hx hb dT_listWaitingStubs_40 hl (k := 2) rfl rfl (by decide) rfl (fun ls hl => ?_)
          refine lv_goto (tgt := 25) hx hb dT_listWaitingStubs_43 (by decide) ?_
          exact ih25 u37 x1 (x2 + 1) _ _ _ hd hw (lv_sub hl [1, 2, 0] rfl)
  unfold dt_listWaitingStubs at hd
  refine lv_aload_n hx hb dT_listWaitingStubs_0 rfl (lv_at hl 0 rfl) ?_
  refine lv_iconst (v := 0) hx hb dT_listWaitingStubs_1 (by decide) ?_
  refine pT_41 hc hn hw dT_listWaitingStubs_2 (fun H locs hw => ?_)
  refine lv_aload_n hx hb dT_listWaitingStubs_5 rfl (lv_at hl 0 rfl) ?_
  refine gT_61 hc hn hw dT_listWaitingStubs_6 ?_
  refine gT_149 hc hn hw dT_listWaitingStubs_9 ?_
  refine lv_istore_n (lv' := [(1, .int ((ts_p 2 0 u).1 4)), (0, .ref (ad 0))]) hx hb dT_listWaitingStubs_12 rfl hl (by decide) rfl (fun ls hl => ?_)
  refine lv_iload_n hx hb dT_listWaitingStubs_13 rfl (lv_at hl 0 rfl) ?_
  refine lv_iconst (v := (-1)) hx hb dT_listWaitingStubs_14 (by decide) ?_
  refine lv_icmp_eq (tgt := 23) hx hb dT_listWaitingStubs_15 (by decide) (fun cq => ?_) (fun cq => ?_)
  · replace hd := ts_if_p cq hd
    refine lv_iconst (v := 0) hx hb dT_listWaitingStubs_23 (by decide) ?_
    refine lv_istore_n (lv' := [(2, .int 0), (1, .int ((ts_p 2 0 u).1 4)), (0, .ref (ad 0))]) hx hb dT_listWaitingStubs_24 rfl hl (by decide) rfl (fun ls hl => ?_)
    exact L25 40 (ts_p 2 0 u) ((ts_p 2 0 u).1 4) 0 _ _ _ hd hw (lv_sub hl [2, 1, 0] rfl)
  · replace hd := ts_if_n cq hd
    refine lv_aload_n hx hb dT_listWaitingStubs_18 rfl (lv_at hl 1 rfl) ?_
    refine lv_iload_n hx hb dT_listWaitingStubs_19 rfl (lv_at hl 0 rfl) ?_
    obtain ⟨r20, u20, hq, hd⟩ := ts_b_s hd
    refine cT_122 hc hn hw hq hl.1 ⟨Nat.le_of_ble_eq_true rfl, Nat.le_of_ble_eq_true rfl⟩ (Nat.le_of_ble_eq_true rfl) dT_listWaitingStubs_20 (fun H locs hw => ?_)
    refine lv_iconst (v := 0) hx hb dT_listWaitingStubs_23 (by decide) ?_
    refine lv_istore_n (lv' := [(2, .int 0), (1, .int ((ts_p 2 0 u).1 4)), (0, .ref (ad 0))]) hx hb dT_listWaitingStubs_24 rfl hl (by decide) rfl (fun ls hl => ?_)
    exact L25 40 u20 ((ts_p 2 0 u).1 4) 0 _ _ _ hd hw (lv_sub hl [2, 1, 0] rfl)
section
variable {p : Program} {l : Launch} {e : Env} {R : Room} {s : State} {m : MethodId} {args : Array Value} {below : List Frame} {meth : Method} {c : Code} {H : Heap} {locs : List Loc} {Q : State → Prop} {cc : ByteArray} {pc nL : Nat} {ls : Array Slot} {rest : List Value} {D : va_G} {ca : Nat → ClassId} {ad : Nat → Nat} {A : Nat → Prop} {u : ts_S} {cells slots : Nat}
theorem cT_116 (hc : CallFix p m c cc nL s args uW RT) (hn : nx s) (hw : ts_W tF D ca ad A s H locs u) {r0 : Int32} {u0 : ts_S} (hq : dt_listWaitingStubs u = some (r0, u0)) (hsz : ls.size = nL) (hR : rT_listWaitingStubs.frames + 1 ≤ R.frames ∧ 8 + (3 + 11) + rT_listWaitingStubs.locals ≤ R.locals) (hrest : (rest.map fun v => v.category).sum ≤ 8) (hdg : decode cc pc = .ok (.invokevirtual 116, 3)) (kk : ∀ (H1 : Heap) (locs1 : List Loc), ts_W tF D ca ad A s H1 locs1 u0 → W p l e R s m args below meth c H1 locs1 0 0 Q (F0 m (pc + 3) ls rest)) : W p l e R s m args below meth c H locs 0 0 Q (F0 m pc ls (.ref (ad 0) :: rest)) :=
  ts_callVv (b := ad 0) (As := []) hc hn hw (ct_listWaitingStubs l hq) rfl (cwV 0 hc.2.2.2.2 (gd_V (by decide +kernel) (by decide +kernel) (by decide +kernel) (by decide +kernel) (code_T_listWaitingStubs)) rfl rfl rfl (by decide +kernel) hR) (va_recv hw.2.2.2.1 hw.1 (ci := 1) (q0 := 0) rfl rfl) rfl hsz hrest hdg kk
end
def rT_serve : Room := { frames := 5, cells := 0, slots := 0, locals := 111 }
set_option maxHeartbeats 4000000 in
set_option maxRecDepth 100000 in
theorem ct_serve (l : Launch) {u : ts_S} {r0 : Int32} {u0 : ts_S} (hd : dt_serve u = some (r0, u0)) : ts_Ci tF l yT_serve (.code yT_serve bT_serve 3 (some .int) :: uW) rT_serve (fun ad => [.ref (ad 0)]) u r0 u0 := by
  refine ts_in_i tF l (by decide) (fun p e s m args below meth c D ca ad A hc hn hr hlk hw => ?_)
  have hx := hc.1
  have hb := hc.2.1
  have hl := lv_entry ([.ref (ad 0)]) (n := 3) (Nat.le_of_ble_eq_true rfl)
  rw [lg_entry_eq]
  generalize (lg_sl ([.ref (ad 0)]) ++ List.replicate (3 - (lg_sl ([.ref (ad 0)])).length) Slot.unset).toArray = ls at hl ⊢
  replace hl : lv_has ls 3 [(0, .ref (ad 0))] := hl
  have L29 : ∀ (n : Nat) (u : ts_S) (x1 x2 : Int32) (H : Heap) (locs : List Loc) (ls : Array Slot), dt_serve_29 n u x1 x2 = some (r0, u0) → ts_W tF D ca ad A s H locs u → lv_has ls 3 [(0, .ref (ad 0)), (1, .int x1), (2, .int x2)] → W p l e rT_serve s m args below meth c H locs 0 0 (MQ below (va_Qi (fun r v => r = r0 ∧ v = u0) (ts_post tF D ca ad A) A) args s 0 0 A) (F0 m 29 ls []) := by
    intro n
    induction n with
    | zero => intro u x1 x2 H locs ls hd; cases (show (none : Option (Int32 × ts_S)) = some (r0, u0) from hd)
    | succ n29 ih29 =>
      intro u x1 x2 H locs ls hd hw hl
      replace hd : dt_serve_29_b (dt_serve_29 n29) u x1 x2 = some (r0, u0) := hd
      unfold dt_serve_29_b at hd
      refine lv_iload_n hx hb dT_serve_29 rfl (lv_at hl 2 rfl) ?_
      refine lv_aload_n hx hb dT_serve_30 rfl (lv_at hl 0 rfl) ?_
      refine gT_41 hc hn hw dT_serve_31 ?_
      refine lv_icmp_ge (tgt := 59) hx hb dT_serve_34 (by decide) (fun cq => ?_) (fun cq => ?_)
      · replace hd := ts_if_p cq hd
        refine lv_iload_n hx hb dT_serve_59 rfl (lv_at hl 1 rfl) ?_
        exact ts_iret hx hb hr hlk (vp_nar_int _) hw hd dT_serve_60
      · replace hd := ts_if_n cq hd
        refine lv_aload_n hx hb dT_serve_37 rfl (lv_at hl 0 rfl) ?_
        refine lv_aload_n hx hb dT_serve_38 rfl (lv_at hl 0 rfl) ?_
        refine gT_38 hc hn hw dT_serve_39 ?_
        refine lv_iload_n hx hb dT_serve_42 rfl (lv_at hl 2 rfl) ?_
        obtain ⟨h, hd⟩ := ts_ix_s hd
        refine tt_l9 hc hw h dT_serve_43 ?_
        obtain ⟨r44, u44, hq, hd⟩ := ts_b_s hd
        refine cT_79 hc hn hw hq hl.1 ⟨Nat.le_of_ble_eq_true rfl, Nat.le_of_ble_eq_true rfl⟩ (Nat.le_of_ble_eq_true rfl) dT_serve_44 (fun H locs hw => ?_)
        refine lv_if_eq (tgt := 53) hx hb dT_serve_47 (by decide) (fun cq => ?_) (fun cq => ?_)
        · replace hd := ts_if_p cq hd
          refine lv_iinc (v := (x2 + 1)) (lv' := [(2, .int (x2 + 1)), (0, .ref (ad 0)), (1, .int x1)]) hx hb dT_serve_53 hl (k := 2) rfl rfl (by decide) rfl (fun ls hl => ?_)
          refine lv_goto (tgt := 29) hx hb dT_serve_56 (by decide) ?_
          exact ih29 u44 x1 (x2 + 1) _ _ _ hd hw (lv_sub hl [1, 2, 0] rfl)
        · replace hd := ts_if_n cq hd
          refine lv_iinc (v := (x1 + 1)) (lv' := [(1, .int (x1 + 1)), (0, .ref (ad 0)), (2, .int x2)]) hx hb dT_serve_50 hl (k := 1) rfl rfl (by decide) rfl (fun ls hl => ?_)
          refine lv_iinc (v := (x2 + 1)) (lv' := [(2, .int (x2 + 1)), (1, .int (x1 + 1)), (0, .ref (ad 0))]) hx hb dT_serve_53 hl (k := 2) rfl rfl (by decide) rfl (fun ls hl => ?_)
          refine lv_goto (tgt := 29) hx hb dT_serve_56 (by decide) ?_
          exact ih29 u44 (x1 + 1) (x2 + 1) _ _ _ hd hw (lv_sub hl [2, 1, 0] rfl)
  have L6 : ∀ (n : Nat) (u : ts_S) (x1 : Int32) (H : Heap) (locs : List Loc) (ls : Array Slot), dt_serve_6 n u x1 = some (r0, u0) → ts_W tF D ca ad A s H locs u → lv_has ls 3 [(0, .ref (ad 0)), (1, .int x1)] → W p l e rT_serve s m args below meth c H locs 0 0 (MQ below (va_Qi (fun r v => r = r0 ∧ v = u0) (ts_post tF D ca ad A) A) args s 0 0 A) (F0 m 6 ls []) := by
    intro n
    induction n with
    | zero => intro u x1 H locs ls hd; cases (show (none : Option (Int32 × ts_S)) = some (r0, u0) from hd)
    | succ n6 ih6 =>
      intro u x1 H locs ls hd hw hl
      replace hd : dt_serve_6_b (dt_serve_6 n6) u x1 = some (r0, u0) := hd
      unfold dt_serve_6_b at hd
      refine lv_iload_n hx hb dT_serve_6 rfl (lv_at hl 1 rfl) ?_
      refine lv_bipush (v := 16) hx hb dT_serve_7 (by decide) ?_
      refine lv_icmp_ge (tgt := 25) hx hb dT_serve_9 (by decide) (fun cq => ?_) (fun cq => ?_)
      · replace hd := ts_if_p cq hd
        refine lv_iconst (v := 0) hx hb dT_serve_25 (by decide) ?_
        refine lv_istore_n (lv' := [(1, .int 0), (0, .ref (ad 0))]) hx hb dT_serve_26 rfl hl (by decide) rfl (fun ls hl => ?_)
        refine lv_iconst (v := 0) hx hb dT_serve_27 (by decide) ?_
        refine lv_istore_n (lv' := [(2, .int 0), (1, .int 0), (0, .ref (ad 0))]) hx hb dT_serve_28 rfl hl (by decide) rfl (fun ls hl => ?_)
        exact L29 40 u 0 0 _ _ _ hd hw (lv_sub hl [2, 1, 0] rfl)
      · replace hd := ts_if_n cq hd
        refine lv_aload_n hx hb dT_serve_12 rfl (lv_at hl 0 rfl) ?_
        refine gT_27 hc hn hw dT_serve_13 ?_
        refine lv_iload_n hx hb dT_serve_16 rfl (lv_at hl 1 rfl) ?_
        refine lv_iconst (v := 0) hx hb dT_serve_17 (by decide) ?_
        obtain ⟨h, hd⟩ := ts_ix_s hd
        refine tt_s7 hc hw h (by decide +kernel) dT_serve_18 (fun H locs hw => ?_)
        refine lv_iinc (v := (x1 + 1)) (lv' := [(1, .int (x1 + 1)), (0, .ref (ad 0))]) hx hb dT_serve_19 hl (k := 1) rfl rfl (by decide) rfl (fun ls hl => ?_)
        refine lv_goto (tgt := 6) hx hb dT_serve_22 (by decide) ?_
        exact ih6 (ts_a 7 x1.toNatClampNeg 0 u) (x1 + 1) _ _ _ hd hw (lv_sub hl [1, 0] rfl)
  unfold dt_serve at hd
  refine lv_aload_n hx hb dT_serve_0 rfl (lv_at hl 0 rfl) ?_
  obtain ⟨r1, u1, hq, hd⟩ := ts_b_s hd
  refine cT_116 hc hn hw hq hl.1 ⟨Nat.le_of_ble_eq_true rfl, Nat.le_of_ble_eq_true rfl⟩ (Nat.le_of_ble_eq_true rfl) dT_serve_1 (fun H locs hw => ?_)
  refine lv_iconst (v := 0) hx hb dT_serve_4 (by decide) ?_
  refine lv_istore_n (lv' := [(1, .int 0), (0, .ref (ad 0))]) hx hb dT_serve_5 rfl hl (by decide) rfl (fun ls hl => ?_)
  exact L6 40 u1 0 _ _ _ hd hw (lv_sub hl [1, 0] rfl)
def rT_isCartridgeNumber : Room := { frames := 0, cells := 0, slots := 0, locals := 0 }
set_option maxHeartbeats 4000000 in
set_option maxRecDepth 100000 in
theorem ct_isCartridgeNumber (l : Launch) {u : ts_S} {x0 : Int32} {r0 : Int32} {u0 : ts_S} (hd : dt_isCartridgeNumber u x0 = some (r0, u0)) : ts_Ci tF l yT_isCartridgeNumber (.code yT_isCartridgeNumber bT_isCartridgeNumber 1 (some .boolean) :: uW) rT_isCartridgeNumber (fun ad => [.int x0]) u r0 u0 := by
  refine ts_in_i tF l (by decide) (fun p e s m args below meth c D ca ad A hc hn hr hlk hw => ?_)
  have hx := hc.1
  have hb := hc.2.1
  have hl := lv_entry ([.int x0]) (n := 1) (Nat.le_of_ble_eq_true rfl)
  rw [lg_entry_eq]
  generalize (lg_sl ([.int x0]) ++ List.replicate (1 - (lg_sl ([.int x0])).length) Slot.unset).toArray = ls at hl ⊢
  replace hl : lv_has ls 1 [(0, .int x0)] := hl
  unfold dt_isCartridgeNumber at hd
  refine lv_iload_n hx hb dT_isCartridgeNumber_0 rfl (lv_at hl 0 rfl) ?_
  refine lv_if_lt (tgt := 13) hx hb dT_isCartridgeNumber_1 (by decide) (fun cq => ?_) (fun cq => ?_)
  · replace hd := ts_if_p cq hd
    refine lv_iconst (v := 0) hx hb dT_isCartridgeNumber_13 (by decide) ?_
    exact ts_iret hx hb hr hlk (by decide +kernel) hw hd dT_isCartridgeNumber_14
  · replace hd := ts_if_n cq hd
    refine lv_iload_n hx hb dT_isCartridgeNumber_4 rfl (lv_at hl 0 rfl) ?_
    refine lv_iconst (v := 4) hx hb dT_isCartridgeNumber_5 (by decide) ?_
    refine lv_icmp_ge (tgt := 13) hx hb dT_isCartridgeNumber_6 (by decide) (fun cq => ?_) (fun cq => ?_)
    · replace hd := ts_if_p cq hd
      refine lv_iconst (v := 0) hx hb dT_isCartridgeNumber_13 (by decide) ?_
      exact ts_iret hx hb hr hlk (by decide +kernel) hw hd dT_isCartridgeNumber_14
    · replace hd := ts_if_n cq hd
      refine lv_iconst (v := 1) hx hb dT_isCartridgeNumber_9 (by decide) ?_
      refine lv_goto (tgt := 14) hx hb dT_isCartridgeNumber_10 (by decide) ?_
      exact ts_iret hx hb hr hlk (by decide +kernel) hw hd dT_isCartridgeNumber_14
section
variable {p : Program} {l : Launch} {e : Env} {R : Room} {s : State} {m : MethodId} {args : Array Value} {below : List Frame} {meth : Method} {c : Code} {H : Heap} {locs : List Loc} {Q : State → Prop} {cc : ByteArray} {pc nL : Nat} {ls : Array Slot} {rest : List Value} {D : va_G} {ca : Nat → ClassId} {ad : Nat → Nat} {A : Nat → Prop} {u : ts_S} {cells slots : Nat}
theorem cT_119 (hc : CallFix p m c cc nL s args uW RT) (hn : nx s) (hw : ts_W tF D ca ad A s H locs u) {x0 : Int32} {r0 : Int32} {u0 : ts_S} (hq : dt_isCartridgeNumber u x0 = some (r0, u0)) (hsz : ls.size = nL) (hR : rT_isCartridgeNumber.frames + 1 ≤ R.frames ∧ 8 + (1 + 11) + rT_isCartridgeNumber.locals ≤ R.locals) (hrest : (rest.map fun v => v.category).sum ≤ 8) (hdg : decode cc pc = .ok (.invokestatic 119, 3)) (kk : ∀ (H1 : Heap) (locs1 : List Loc), ts_W tF D ca ad A s H1 locs1 u0 → W p l e R s m args below meth c H1 locs1 0 0 Q (F0 m (pc + 3) ls (.int r0 :: rest))) : W p l e R s m args below meth c H locs 0 0 Q (F0 m pc ls (.int x0 :: rest)) :=
  ts_callSi (As := [.int x0]) hc hn hw (ct_isCartridgeNumber l hq) rfl (cwS 1 hc.2.2.2.2 (gd_S (by decide +kernel) (by decide +kernel) (by decide +kernel) (code_T_isCartridgeNumber)) rfl rfl rfl (by decide +kernel) hR) rfl hsz hrest hdg kk
end
def rP_startTrial : Room := { frames := 1, cells := 0, slots := 0, locals := 60 }
set_option maxHeartbeats 4000000 in
set_option maxRecDepth 100000 in
theorem cp_startTrial (l : Launch) {u : ts_S} {r0 : Int32} {u0 : ts_S} (hd : dp_startTrial u = some (r0, u0)) : ts_Cv tF l yP_startTrial (.code yP_startTrial bP_startTrial 1 none :: uW) rP_startTrial (fun ad => [.ref (ad 1)]) u u0 := by
  refine ts_in_v tF l (by decide) (fun p e s m args below meth c D ca ad A hc hn hr hlk hw => ?_)
  have hx := hc.1
  have hb := hc.2.1
  have hl := lv_entry ([.ref (ad 1)]) (n := 1) (Nat.le_of_ble_eq_true rfl)
  rw [lg_entry_eq]
  generalize (lg_sl ([.ref (ad 1)]) ++ List.replicate (1 - (lg_sl ([.ref (ad 1)])).length) Slot.unset).toArray = ls at hl ⊢
  replace hl : lv_has ls 1 [(0, .ref (ad 1))] := hl
  unfold dp_startTrial at hd
  refine lv_aload_n hx hb dP_startTrial_0 rfl (lv_at hl 0 rfl) ?_
  refine gP_9 hc hn hw dP_startTrial_1 ?_
  refine lv_iconst (v := 0) hx hb dP_startTrial_4 (by decide) ?_
  refine lv_aload_n hx hb dP_startTrial_5 rfl (lv_at hl 0 rfl) ?_
  refine gP_15 hc hn hw dP_startTrial_6 ?_
  refine lv_iconst (v := 0) hx hb dP_startTrial_9 (by decide) ?_
  refine lv_iconst (v := 4) hx hb dP_startTrial_10 (by decide) ?_
  refine jc_P_49 hc hw hl.1 (Nat.le_of_ble_eq_true rfl) (Nat.le_of_ble_eq_true rfl) dP_startTrial_11 (fun H locs hw => ?_)
  exact ts_vret hx hb hr hlk hw hd dP_startTrial_14
section
variable {p : Program} {l : Launch} {e : Env} {R : Room} {s : State} {m : MethodId} {args : Array Value} {below : List Frame} {meth : Method} {c : Code} {H : Heap} {locs : List Loc} {Q : State → Prop} {cc : ByteArray} {pc nL : Nat} {ls : Array Slot} {rest : List Value} {D : va_G} {ca : Nat → ClassId} {ad : Nat → Nat} {A : Nat → Prop} {u : ts_S} {cells slots : Nat}
theorem cT_171 (hc : CallFix p m c cc nL s args uW RT) (hn : nx s) (hw : ts_W tF D ca ad A s H locs u) {r0 : Int32} {u0 : ts_S} (hq : dp_startTrial u = some (r0, u0)) (hsz : ls.size = nL) (hR : rP_startTrial.frames + 1 ≤ R.frames ∧ 8 + (1 + 11) + rP_startTrial.locals ≤ R.locals) (hrest : (rest.map fun v => v.category).sum ≤ 8) (hdg : decode cc pc = .ok (.invokevirtual 171, 3)) (kk : ∀ (H1 : Heap) (locs1 : List Loc), ts_W tF D ca ad A s H1 locs1 u0 → W p l e R s m args below meth c H1 locs1 0 0 Q (F0 m (pc + 3) ls rest)) : W p l e R s m args below meth c H locs 0 0 Q (F0 m pc ls (.ref (ad 1) :: rest)) :=
  ts_callNv (b := ad 1) (As := []) hc hn hw (cp_startTrial l hq) rfl ⟨va_cnB 0 hc.2.2.2.2 (gd_N (code_P_startTrial)) rfl rfl rfl (hn (.methodLinkNest RT 171 yP_startTrial "TierStore") (by decide +kernel)) (hc.2.2.2.2 (.initialized RP) (by decide +kernel)) (by decide +kernel) hR, hc.2.2.2.2 (.instanceMethod yP_startTrial) (by decide +kernel), hc.2.2.2.2 (.selects RP yP_startTrial yP_startTrial) (by decide +kernel)⟩ (va_recv hw.2.2.2.1 hw.1 (ci := 0) (q0 := 1) rfl rfl) rfl hsz hrest hdg kk
end
def rP_firstFitting_11 : Room := { frames := 0, cells := 0, slots := 0, locals := 0 }
set_option maxHeartbeats 4000000 in
set_option maxRecDepth 100000 in
theorem cp_firstFitting_11 (l : Launch) {u : ts_S} {x2 x3 : Int32} {r0 : Int32} {u0 : ts_S} (hd : dp_firstFitting_11 u x2 x3 = some (r0, u0)) : ts_Ci tF l yP_firstFitting (.code yP_firstFitting bP_firstFitting 5 (some .int) :: uW) rP_firstFitting_11 (fun ad => [.ref (ad 1), .ref (ad 11), .int x2, .int x3]) u r0 u0 := by
  refine ts_in_i tF l (by decide) (fun p e s m args below meth c D ca ad A hc hn hr hlk hw => ?_)
  have hx := hc.1
  have hb := hc.2.1
  have hl := lv_entry ([.ref (ad 1), .ref (ad 11), .int x2, .int x3]) (n := 5) (Nat.le_of_ble_eq_true rfl)
  rw [lg_entry_eq]
  generalize (lg_sl ([.ref (ad 1), .ref (ad 11), .int x2, .int x3]) ++ List.replicate (5 - (lg_sl ([.ref (ad 1), .ref (ad 11), .int x2, .int x3])).length) Slot.unset).toArray = ls at hl ⊢
  replace hl : lv_has ls 5 [(0, .ref (ad 1)), (1, .ref (ad 11)), (2, .int x2), (3, .int x3)] := hl
  have L3 : ∀ (n : Nat) (u : ts_S) (x2 x3 x4 : Int32) (H : Heap) (locs : List Loc) (ls : Array Slot), dp_firstFitting_11_3 n u x2 x3 x4 = some (r0, u0) → ts_W tF D ca ad A s H locs u → lv_has ls 5 [(0, .ref (ad 1)), (1, .ref (ad 11)), (2, .int x2), (3, .int x3), (4, .int x4)] → W p l e rP_firstFitting_11 s m args below meth c H locs 0 0 (MQ below (va_Qi (fun r v => r = r0 ∧ v = u0) (ts_post tF D ca ad A) A) args s 0 0 A) (F0 m 3 ls []) := by
    intro n
    induction n with
    | zero => intro u x2 x3 x4 H locs ls hd; cases (show (none : Option (Int32 × ts_S)) = some (r0, u0) from hd)
    | succ n3 ih3 =>
      intro u x2 x3 x4 H locs ls hd hw hl
      replace hd : dp_firstFitting_11_3_b (dp_firstFitting_11_3 n3) u x2 x3 x4 = some (r0, u0) := hd
      unfold dp_firstFitting_11_3_b at hd
      refine lv_iload hx hb dP_firstFitting_3 (lv_at hl 4 rfl) ?_
      refine lv_iconst (v := 4) hx hb dP_firstFitting_5 (by decide) ?_
      refine lv_icmp_ge (tgt := 37) hx hb dP_firstFitting_6 (by decide) (fun cq => ?_) (fun cq => ?_)
      · replace hd := ts_if_p cq hd
        refine lv_iconst (v := (-1)) hx hb dP_firstFitting_37 (by decide) ?_
        exact ts_iret hx hb hr hlk (vp_nar_int _) hw hd dP_firstFitting_38
      · replace hd := ts_if_n cq hd
        refine lv_iload hx hb dP_firstFitting_9 (lv_at hl 4 rfl) ?_
        refine lv_iload_n hx hb dP_firstFitting_11 rfl (lv_at hl 3 rfl) ?_
        refine lv_icmp_eq (tgt := 31) hx hb dP_firstFitting_12 (by decide) (fun cq => ?_) (fun cq => ?_)
        · replace hd := ts_if_p cq hd
          refine lv_iinc (v := (x4 + 1)) (lv' := [(4, .int (x4 + 1)), (0, .ref (ad 1)), (1, .ref (ad 11)), (2, .int x2), (3, .int x3)]) hx hb dP_firstFitting_31 hl (k := 4) rfl rfl (by decide) rfl (fun ls hl => ?_)
          refine lv_goto (tgt := 3) hx hb dP_firstFitting_34 (by decide) ?_
          exact ih3 u x2 x3 (x4 + 1) _ _ _ hd hw (lv_sub hl [1, 2, 3, 4, 0] rfl)
        · replace hd := ts_if_n cq hd
          refine lv_aload_n hx hb dP_firstFitting_15 rfl (lv_at hl 1 rfl) ?_
          refine lv_iload hx hb dP_firstFitting_16 (lv_at hl 4 rfl) ?_
          obtain ⟨h, hd⟩ := ts_ix_s hd
          refine tt_l11 hc hw h dP_firstFitting_18 ?_
          refine lv_iload_n hx hb dP_firstFitting_19 rfl (lv_at hl 2 rfl) ?_
          refine lv_iadd hx hb dP_firstFitting_20 ?_
          refine lv_aload_n hx hb dP_firstFitting_21 rfl (lv_at hl 0 rfl) ?_
          refine gP_28 hc hn hw dP_firstFitting_22 ?_
          refine lv_icmp_gt (tgt := 31) hx hb dP_firstFitting_25 (by decide) (fun cq => ?_) (fun cq => ?_)
          · replace hd := ts_if_p cq hd
            refine lv_iinc (v := (x4 + 1)) (lv' := [(4, .int (x4 + 1)), (0, .ref (ad 1)), (1, .ref (ad 11)), (2, .int x2), (3, .int x3)]) hx hb dP_firstFitting_31 hl (k := 4) rfl rfl (by decide) rfl (fun ls hl => ?_)
            refine lv_goto (tgt := 3) hx hb dP_firstFitting_34 (by decide) ?_
            exact ih3 u x2 x3 (x4 + 1) _ _ _ hd hw (lv_sub hl [1, 2, 3, 4, 0] rfl)
          · replace hd := ts_if_n cq hd
            refine lv_iload hx hb dP_firstFitting_28 (lv_at hl 4 rfl) ?_
            exact ts_iret hx hb hr hlk (vp_nar_int _) hw hd dP_firstFitting_30
  unfold dp_firstFitting_11 at hd
  refine lv_iconst (v := 0) hx hb dP_firstFitting_0 (by decide) ?_
  refine lv_istore (lv' := [(4, .int 0), (0, .ref (ad 1)), (1, .ref (ad 11)), (2, .int x2), (3, .int x3)]) hx hb dP_firstFitting_1 hl (by decide) rfl (fun ls hl => ?_)
  exact L3 40 u x2 x3 0 _ _ _ hd hw (lv_sub hl [1, 2, 3, 4, 0] rfl)
section
variable {p : Program} {l : Launch} {e : Env} {R : Room} {s : State} {m : MethodId} {args : Array Value} {below : List Frame} {meth : Method} {c : Code} {H : Heap} {locs : List Loc} {Q : State → Prop} {cc : ByteArray} {pc nL : Nat} {ls : Array Slot} {rest : List Value} {D : va_G} {ca : Nat → ClassId} {ad : Nat → Nat} {A : Nat → Prop} {u : ts_S} {cells slots : Nat}
theorem cP_45_11 (hc : CallFix p m c cc nL s args uW RP) (hn : nx s) (hw : ts_W tF D ca ad A s H locs u) {x2 x3 : Int32} {r0 : Int32} {u0 : ts_S} (hq : dp_firstFitting_11 u x2 x3 = some (r0, u0)) (hsz : ls.size = nL) (hR : rP_firstFitting_11.frames + 1 ≤ R.frames ∧ 8 + (5 + 11) + rP_firstFitting_11.locals ≤ R.locals) (hrest : (rest.map fun v => v.category).sum ≤ 8) (hdg : decode cc pc = .ok (.invokevirtual 45, 3)) (kk : ∀ (H1 : Heap) (locs1 : List Loc), ts_W tF D ca ad A s H1 locs1 u0 → W p l e R s m args below meth c H1 locs1 0 0 Q (F0 m (pc + 3) ls (.int r0 :: rest))) : W p l e R s m args below meth c H locs 0 0 Q (F0 m pc ls (.int x3 :: .int x2 :: .ref (ad 11) :: .ref (ad 1) :: rest)) :=
  ts_callVi (b := ad 1) (As := [.ref (ad 11), .int x2, .int x3]) hc hn hw (cp_firstFitting_11 l hq) rfl (cwV 3 hc.2.2.2.2 (gd_V (by decide +kernel) (by decide +kernel) (by decide +kernel) (by decide +kernel) (code_P_firstFitting)) rfl rfl rfl (by decide +kernel) hR) (va_recv hw.2.2.2.1 hw.1 (ci := 0) (q0 := 1) rfl rfl) rfl hsz hrest hdg kk
end
def rP_tryBeside : Room := { frames := 1, cells := 0, slots := 0, locals := 24 }
set_option maxHeartbeats 4000000 in
set_option maxRecDepth 100000 in
theorem cp_tryBeside (l : Launch) {u : ts_S} {x1 x2 : Int32} {r0 : Int32} {u0 : ts_S} (hd : dp_tryBeside u x1 x2 = some (r0, u0)) : ts_Ci tF l yP_tryBeside (.code yP_tryBeside bP_tryBeside 4 (some .boolean) :: uW) rP_tryBeside (fun ad => [.ref (ad 1), .int x1, .int x2]) u r0 u0 := by
  refine ts_in_i tF l (by decide) (fun p e s m args below meth c D ca ad A hc hn hr hlk hw => ?_)
  have hx := hc.1
  have hb := hc.2.1
  have hl := lv_entry ([.ref (ad 1), .int x1, .int x2]) (n := 4) (Nat.le_of_ble_eq_true rfl)
  rw [lg_entry_eq]
  generalize (lg_sl ([.ref (ad 1), .int x1, .int x2]) ++ List.replicate (4 - (lg_sl ([.ref (ad 1), .int x1, .int x2])).length) Slot.unset).toArray = ls at hl ⊢
  replace hl : lv_has ls 4 [(0, .ref (ad 1)), (1, .int x1), (2, .int x2)] := hl
  unfold dp_tryBeside at hd
  refine lv_aload_n hx hb dP_tryBeside_0 rfl (lv_at hl 0 rfl) ?_
  refine lv_aload_n hx hb dP_tryBeside_1 rfl (lv_at hl 0 rfl) ?_
  refine gP_15 hc hn hw dP_tryBeside_2 ?_
  refine lv_iload_n hx hb dP_tryBeside_5 rfl (lv_at hl 2 rfl) ?_
  refine lv_iload_n hx hb dP_tryBeside_6 rfl (lv_at hl 1 rfl) ?_
  obtain ⟨r7, u7, hq, hd⟩ := ts_b_s hd
  refine cP_45_11 hc hn hw hq hl.1 ⟨Nat.le_of_ble_eq_true rfl, Nat.le_of_ble_eq_true rfl⟩ (Nat.le_of_ble_eq_true rfl) dP_tryBeside_7 (fun H locs hw => ?_)
  refine lv_istore_n (lv' := [(3, .int r7), (0, .ref (ad 1)), (1, .int x1), (2, .int x2)]) hx hb dP_tryBeside_10 rfl hl (by decide) rfl (fun ls hl => ?_)
  refine lv_iload_n hx hb dP_tryBeside_11 rfl (lv_at hl 0 rfl) ?_
  refine lv_iconst (v := (-1)) hx hb dP_tryBeside_12 (by decide) ?_
  refine lv_icmp_ne (tgt := 18) hx hb dP_tryBeside_13 (by decide) (fun cq => ?_) (fun cq => ?_)
  · replace hd := ts_if_n cq hd
    refine lv_aload_n hx hb dP_tryBeside_18 rfl (lv_at hl 1 rfl) ?_
    refine gP_15 hc hn hw dP_tryBeside_19 ?_
    refine lv_iload_n hx hb dP_tryBeside_22 rfl (lv_at hl 0 rfl) ?_
    refine lv_dup2_11 hx hb dP_tryBeside_23 rfl rfl ?_
    obtain ⟨h, hd⟩ := ts_ix_s hd
    refine tt_l11 hc hw h dP_tryBeside_24 ?_
    refine lv_iload_n hx hb dP_tryBeside_25 rfl (lv_at hl 3 rfl) ?_
    refine lv_iadd hx hb dP_tryBeside_26 ?_
    obtain ⟨h, hd⟩ := ts_ix_s hd
    refine tt_s11 hc hw h dP_tryBeside_27 (fun H locs hw => ?_)
    refine lv_iconst (v := 1) hx hb dP_tryBeside_28 (by decide) ?_
    exact ts_iret hx hb hr hlk (by decide +kernel) hw hd dP_tryBeside_29
  · replace hd := ts_if_p cq hd
    refine lv_iconst (v := 0) hx hb dP_tryBeside_16 (by decide) ?_
    exact ts_iret hx hb hr hlk (by decide +kernel) hw hd dP_tryBeside_17
section
variable {p : Program} {l : Launch} {e : Env} {R : Room} {s : State} {m : MethodId} {args : Array Value} {below : List Frame} {meth : Method} {c : Code} {H : Heap} {locs : List Loc} {Q : State → Prop} {cc : ByteArray} {pc nL : Nat} {ls : Array Slot} {rest : List Value} {D : va_G} {ca : Nat → ClassId} {ad : Nat → Nat} {A : Nat → Prop} {u : ts_S} {cells slots : Nat}
theorem cT_174 (hc : CallFix p m c cc nL s args uW RT) (hn : nx s) (hw : ts_W tF D ca ad A s H locs u) {x1 x2 : Int32} {r0 : Int32} {u0 : ts_S} (hq : dp_tryBeside u x1 x2 = some (r0, u0)) (hsz : ls.size = nL) (hR : rP_tryBeside.frames + 1 ≤ R.frames ∧ 8 + (4 + 11) + rP_tryBeside.locals ≤ R.locals) (hrest : (rest.map fun v => v.category).sum ≤ 8) (hdg : decode cc pc = .ok (.invokevirtual 174, 3)) (kk : ∀ (H1 : Heap) (locs1 : List Loc), ts_W tF D ca ad A s H1 locs1 u0 → W p l e R s m args below meth c H1 locs1 0 0 Q (F0 m (pc + 3) ls (.int r0 :: rest))) : W p l e R s m args below meth c H locs 0 0 Q (F0 m pc ls (.int x2 :: .int x1 :: .ref (ad 1) :: rest)) :=
  ts_callNi (b := ad 1) (As := [.int x1, .int x2]) hc hn hw (cp_tryBeside l hq) rfl ⟨va_cnB 2 hc.2.2.2.2 (gd_N (code_P_tryBeside)) rfl rfl rfl (hn (.methodLinkNest RT 174 yP_tryBeside "TierStore") (by decide +kernel)) (hc.2.2.2.2 (.initialized RP) (by decide +kernel)) (by decide +kernel) hR, hc.2.2.2.2 (.instanceMethod yP_tryBeside) (by decide +kernel), hc.2.2.2.2 (.selects RP yP_tryBeside yP_tryBeside) (by decide +kernel)⟩ (va_recv hw.2.2.2.1 hw.1 (ci := 0) (q0 := 1) rfl rfl) rfl hsz hrest hdg kk
end
def rT_listedFitBeside : Room := { frames := 2, cells := 0, slots := 0, locals := 80 }
set_option maxHeartbeats 4000000 in
set_option maxRecDepth 100000 in
theorem ct_listedFitBeside (l : Launch) {u : ts_S} {x1 : Int32} {r0 : Int32} {u0 : ts_S} (hd : dt_listedFitBeside u x1 = some (r0, u0)) : ts_Ci tF l yT_listedFitBeside (.code yT_listedFitBeside bT_listedFitBeside 3 (some .boolean) :: uW) rT_listedFitBeside (fun ad => [.ref (ad 0), .int x1]) u r0 u0 := by
  refine ts_in_i tF l (by decide) (fun p e s m args below meth c D ca ad A hc hn hr hlk hw => ?_)
  have hx := hc.1
  have hb := hc.2.1
  have hl := lv_entry ([.ref (ad 0), .int x1]) (n := 3) (Nat.le_of_ble_eq_true rfl)
  rw [lg_entry_eq]
  generalize (lg_sl ([.ref (ad 0), .int x1]) ++ List.replicate (3 - (lg_sl ([.ref (ad 0), .int x1])).length) Slot.unset).toArray = ls at hl ⊢
  replace hl : lv_has ls 3 [(0, .ref (ad 0)), (1, .int x1)] := hl
  have L9 : ∀ (n : Nat) (u : ts_S) (x1 x2 : Int32) (H : Heap) (locs : List Loc) (ls : Array Slot), dt_listedFitBeside_9 n u x1 x2 = some (r0, u0) → ts_W tF D ca ad A s H locs u → lv_has ls 3 [(0, .ref (ad 0)), (1, .int x1), (2, .int x2)] → W p l e rT_listedFitBeside s m args below meth c H locs 0 0 (MQ below (va_Qi (fun r v => r = r0 ∧ v = u0) (ts_post tF D ca ad A) A) args s 0 0 A) (F0 m 9 ls []) := by
    intro n
    induction n with
    | zero => intro u x1 x2 H locs ls hd; cases (show (none : Option (Int32 × ts_S)) = some (r0, u0) from hd)
    | succ n9 ih9 =>
      intro u x1 x2 H locs ls hd hw hl
      replace hd : dt_listedFitBeside_9_b (dt_listedFitBeside_9 n9) u x1 x2 = some (r0, u0) := hd
      unfold dt_listedFitBeside_9_b at hd
      refine lv_iload_n hx hb dT_listedFitBeside_9 rfl (lv_at hl 2 rfl) ?_
      refine lv_aload_n hx hb dT_listedFitBeside_10 rfl (lv_at hl 0 rfl) ?_
      refine gT_41 hc hn hw dT_listedFitBeside_11 ?_
      refine lv_icmp_ge (tgt := 47) hx hb dT_listedFitBeside_14 (by decide) (fun cq => ?_) (fun cq => ?_)
      · replace hd := ts_if_p cq hd
        refine lv_iconst (v := 1) hx hb dT_listedFitBeside_47 (by decide) ?_
        exact ts_iret hx hb hr hlk (by decide +kernel) hw hd dT_listedFitBeside_48
      · replace hd := ts_if_n cq hd
        refine lv_aload_n hx hb dT_listedFitBeside_17 rfl (lv_at hl 0 rfl) ?_
        refine gT_61 hc hn hw dT_listedFitBeside_18 ?_
        refine lv_iload_n hx hb dT_listedFitBeside_21 rfl (lv_at hl 1 rfl) ?_
        refine lv_aload_n hx hb dT_listedFitBeside_22 rfl (lv_at hl 0 rfl) ?_
        refine gT_13 hc hn hw dT_listedFitBeside_23 ?_
        refine lv_aload_n hx hb dT_listedFitBeside_26 rfl (lv_at hl 0 rfl) ?_
        refine gT_38 hc hn hw dT_listedFitBeside_27 ?_
        refine lv_iload_n hx hb dT_listedFitBeside_30 rfl (lv_at hl 2 rfl) ?_
        obtain ⟨h, hd⟩ := ts_ix_s hd
        refine tt_l9 hc hw h dT_listedFitBeside_31 ?_
        obtain ⟨h, hd⟩ := ts_ix_s hd
        refine tt_l3 hc hw h dT_listedFitBeside_32 ?_
        obtain ⟨r33, u33, hq, hd⟩ := ts_b_s hd
        refine cT_174 hc hn hw hq hl.1 ⟨Nat.le_of_ble_eq_true rfl, Nat.le_of_ble_eq_true rfl⟩ (Nat.le_of_ble_eq_true rfl) dT_listedFitBeside_33 (fun H locs hw => ?_)
        refine lv_if_ne (tgt := 41) hx hb dT_listedFitBeside_36 (by decide) (fun cq => ?_) (fun cq => ?_)
        · replace hd := ts_if_n cq hd
          refine lv_iinc (v := (x2 + 1)) (lv' := [(2, .int (x2 + 1)), (0, .ref (ad 0)), (1, .int x1)]) hx hb dT_listedFitBeside_41 hl (k := 2) rfl rfl (by decide) rfl (fun ls hl => ?_)
          refine lv_goto (tgt := 9) hx hb dT_listedFitBeside_44 (by decide) ?_
          exact ih9 u33 x1 (x2 + 1) _ _ _ hd hw (lv_sub hl [1, 2, 0] rfl)
        · replace hd := ts_if_p cq hd
          refine lv_iconst (v := 0) hx hb dT_listedFitBeside_39 (by decide) ?_
          exact ts_iret hx hb hr hlk (by decide +kernel) hw hd dT_listedFitBeside_40
  unfold dt_listedFitBeside at hd
  refine lv_aload_n hx hb dT_listedFitBeside_0 rfl (lv_at hl 0 rfl) ?_
  refine gT_61 hc hn hw dT_listedFitBeside_1 ?_
  obtain ⟨r4, u4, hq, hd⟩ := ts_b_s hd
  refine cT_171 hc hn hw hq hl.1 ⟨Nat.le_of_ble_eq_true rfl, Nat.le_of_ble_eq_true rfl⟩ (Nat.le_of_ble_eq_true rfl) dT_listedFitBeside_4 (fun H locs hw => ?_)
  refine lv_iconst (v := 0) hx hb dT_listedFitBeside_7 (by decide) ?_
  refine lv_istore_n (lv' := [(2, .int 0), (0, .ref (ad 0)), (1, .int x1)]) hx hb dT_listedFitBeside_8 rfl hl (by decide) rfl (fun ls hl => ?_)
  exact L9 40 u4 x1 0 _ _ _ hd hw (lv_sub hl [1, 2, 0] rfl)
section
variable {p : Program} {l : Launch} {e : Env} {R : Room} {s : State} {m : MethodId} {args : Array Value} {below : List Frame} {meth : Method} {c : Code} {H : Heap} {locs : List Loc} {Q : State → Prop} {cc : ByteArray} {pc nL : Nat} {ls : Array Slot} {rest : List Value} {D : va_G} {ca : Nat → ClassId} {ad : Nat → Nat} {A : Nat → Prop} {u : ts_S} {cells slots : Nat}
theorem cT_125 (hc : CallFix p m c cc nL s args uW RT) (hn : nx s) (hw : ts_W tF D ca ad A s H locs u) {x1 : Int32} {r0 : Int32} {u0 : ts_S} (hq : dt_listedFitBeside u x1 = some (r0, u0)) (hsz : ls.size = nL) (hR : rT_listedFitBeside.frames + 1 ≤ R.frames ∧ 8 + (3 + 11) + rT_listedFitBeside.locals ≤ R.locals) (hrest : (rest.map fun v => v.category).sum ≤ 8) (hdg : decode cc pc = .ok (.invokevirtual 125, 3)) (kk : ∀ (H1 : Heap) (locs1 : List Loc), ts_W tF D ca ad A s H1 locs1 u0 → W p l e R s m args below meth c H1 locs1 0 0 Q (F0 m (pc + 3) ls (.int r0 :: rest))) : W p l e R s m args below meth c H locs 0 0 Q (F0 m pc ls (.int x1 :: .ref (ad 0) :: rest)) :=
  ts_callVi (b := ad 0) (As := [.int x1]) hc hn hw (ct_listedFitBeside l hq) rfl (cwV 1 hc.2.2.2.2 (gd_V (by decide +kernel) (by decide +kernel) (by decide +kernel) (by decide +kernel) (code_T_listedFitBeside)) rfl rfl rfl (by decide +kernel) hR) (va_recv hw.2.2.2.1 hw.1 (ci := 1) (q0 := 0) rfl rfl) rfl hsz hrest hdg kk
end
def rT_moveCopy : Room := { frames := 5, cells := 0, slots := 0, locals := 111 }
set_option maxHeartbeats 4000000 in
set_option maxRecDepth 100000 in
theorem ct_moveCopy (l : Launch) {u : ts_S} {x1 x2 : Int32} {r0 : Int32} {u0 : ts_S} (hd : dt_moveCopy u x1 x2 = some (r0, u0)) : ts_Cv tF l yT_moveCopy (.code yT_moveCopy bT_moveCopy 4 none :: uW) rT_moveCopy (fun ad => [.ref (ad 0), .int x1, .int x2]) u u0 := by
  refine ts_in_v tF l (by decide) (fun p e s m args below meth c D ca ad A hc hn hr hlk hw => ?_)
  have hx := hc.1
  have hb := hc.2.1
  have hl := lv_entry ([.ref (ad 0), .int x1, .int x2]) (n := 4) (Nat.le_of_ble_eq_true rfl)
  rw [lg_entry_eq]
  generalize (lg_sl ([.ref (ad 0), .int x1, .int x2]) ++ List.replicate (4 - (lg_sl ([.ref (ad 0), .int x1, .int x2])).length) Slot.unset).toArray = ls at hl ⊢
  replace hl : lv_has ls 4 [(0, .ref (ad 0)), (1, .int x1), (2, .int x2)] := hl
  unfold dt_moveCopy at hd
  refine lv_aload_n hx hb dT_moveCopy_0 rfl (lv_at hl 0 rfl) ?_
  refine gT_61 hc hn hw dT_moveCopy_1 ?_
  refine lv_iload_n hx hb dT_moveCopy_4 rfl (lv_at hl 2 rfl) ?_
  refine lv_aload_n hx hb dT_moveCopy_5 rfl (lv_at hl 0 rfl) ?_
  refine gT_24 hc hn hw dT_moveCopy_6 ?_
  refine lv_iload_n hx hb dT_moveCopy_9 rfl (lv_at hl 1 rfl) ?_
  obtain ⟨h, hd⟩ := ts_ix_s hd
  refine tt_l6 hc hw h dT_moveCopy_10 ?_
  refine lv_aload_n hx hb dT_moveCopy_11 rfl (lv_at hl 0 rfl) ?_
  refine gT_13 hc hn hw dT_moveCopy_12 ?_
  refine lv_iload_n hx hb dT_moveCopy_15 rfl (lv_at hl 1 rfl) ?_
  obtain ⟨h, hd⟩ := ts_ix_s hd
  refine tt_l3 hc hw h dT_moveCopy_16 ?_
  obtain ⟨r17, u17, hq, hd⟩ := ts_b_s hd
  refine cT_164 hc hn hw hq hl.1 ⟨Nat.le_of_ble_eq_true rfl, Nat.le_of_ble_eq_true rfl⟩ (Nat.le_of_ble_eq_true rfl) dT_moveCopy_17 (fun H locs hw => ?_)
  refine lv_aload_n hx hb dT_moveCopy_20 rfl (lv_at hl 0 rfl) ?_
  refine gT_61 hc hn hw dT_moveCopy_21 ?_
  refine lv_aload_n hx hb dT_moveCopy_24 rfl (lv_at hl 0 rfl) ?_
  refine gT_13 hc hn hw dT_moveCopy_25 ?_
  refine lv_iload_n hx hb dT_moveCopy_28 rfl (lv_at hl 1 rfl) ?_
  obtain ⟨h, hd⟩ := ts_ix_s hd
  refine tt_l3 hc hw h dT_moveCopy_29 ?_
  refine lv_iload_n hx hb dT_moveCopy_30 rfl (lv_at hl 2 rfl) ?_
  obtain ⟨r31, u31, hq, hd⟩ := ts_b_s hd
  refine cT_95 hc hn hw hq hl.1 ⟨Nat.le_of_ble_eq_true rfl, Nat.le_of_ble_eq_true rfl⟩ (Nat.le_of_ble_eq_true rfl) dT_moveCopy_31 (fun H locs hw => ?_)
  refine lv_istore_n (lv' := [(3, .int r31), (0, .ref (ad 0)), (1, .int x1), (2, .int x2)]) hx hb dT_moveCopy_34 rfl hl (by decide) rfl (fun ls hl => ?_)
  refine lv_iload_n hx hb dT_moveCopy_35 rfl (lv_at hl 0 rfl) ?_
  refine lv_iconst (v := (-1)) hx hb dT_moveCopy_36 (by decide) ?_
  refine lv_icmp_eq (tgt := 46) hx hb dT_moveCopy_37 (by decide) (fun cq => ?_) (fun cq => ?_)
  · replace hd := ts_if_p cq hd
    exact ts_vret hx hb hr hlk hw hd dT_moveCopy_46
  · replace hd := ts_if_n cq hd
    refine lv_aload_n hx hb dT_moveCopy_40 rfl (lv_at hl 1 rfl) ?_
    refine lv_iload_n hx hb dT_moveCopy_41 rfl (lv_at hl 2 rfl) ?_
    refine lv_iload_n hx hb dT_moveCopy_42 rfl (lv_at hl 0 rfl) ?_
    obtain ⟨r43, u43, hq, hd⟩ := ts_b_s hd
    refine cT_98 hc hn hw hq hl.1 ⟨Nat.le_of_ble_eq_true rfl, Nat.le_of_ble_eq_true rfl⟩ (Nat.le_of_ble_eq_true rfl) dT_moveCopy_43 (fun H locs hw => ?_)
    exact ts_vret hx hb hr hlk hw hd dT_moveCopy_46
section
variable {p : Program} {l : Launch} {e : Env} {R : Room} {s : State} {m : MethodId} {args : Array Value} {below : List Frame} {meth : Method} {c : Code} {H : Heap} {locs : List Loc} {Q : State → Prop} {cc : ByteArray} {pc nL : Nat} {ls : Array Slot} {rest : List Value} {D : va_G} {ca : Nat → ClassId} {ad : Nat → Nat} {A : Nat → Prop} {u : ts_S} {cells slots : Nat}
theorem cT_128 (hc : CallFix p m c cc nL s args uW RT) (hn : nx s) (hw : ts_W tF D ca ad A s H locs u) {x1 x2 : Int32} {r0 : Int32} {u0 : ts_S} (hq : dt_moveCopy u x1 x2 = some (r0, u0)) (hsz : ls.size = nL) (hR : rT_moveCopy.frames + 1 ≤ R.frames ∧ 8 + (4 + 11) + rT_moveCopy.locals ≤ R.locals) (hrest : (rest.map fun v => v.category).sum ≤ 8) (hdg : decode cc pc = .ok (.invokevirtual 128, 3)) (kk : ∀ (H1 : Heap) (locs1 : List Loc), ts_W tF D ca ad A s H1 locs1 u0 → W p l e R s m args below meth c H1 locs1 0 0 Q (F0 m (pc + 3) ls rest)) : W p l e R s m args below meth c H locs 0 0 Q (F0 m pc ls (.int x2 :: .int x1 :: .ref (ad 0) :: rest)) :=
  ts_callVv (b := ad 0) (As := [.int x1, .int x2]) hc hn hw (ct_moveCopy l hq) rfl (cwV 2 hc.2.2.2.2 (gd_V (by decide +kernel) (by decide +kernel) (by decide +kernel) (by decide +kernel) (code_T_moveCopy)) rfl rfl rfl (by decide +kernel) hR) (va_recv hw.2.2.2.1 hw.1 (ci := 1) (q0 := 0) rfl rfl) rfl hsz hrest hdg kk
end
def rT_empty : Room := { frames := 6, cells := 0, slots := 0, locals := 134 }
set_option maxHeartbeats 4000000 in
set_option maxRecDepth 100000 in
theorem ct_empty (l : Launch) {u : ts_S} {x1 : Int32} {r0 : Int32} {u0 : ts_S} (hd : dt_empty u x1 = some (r0, u0)) : ts_Ci tF l yT_empty (.code yT_empty bT_empty 3 (some .int) :: uW) rT_empty (fun ad => [.ref (ad 0), .int x1]) u r0 u0 := by
  refine ts_in_i tF l (by decide) (fun p e s m args below meth c D ca ad A hc hn hr hlk hw => ?_)
  have hx := hc.1
  have hb := hc.2.1
  have hl := lv_entry ([.ref (ad 0), .int x1]) (n := 3) (Nat.le_of_ble_eq_true rfl)
  rw [lg_entry_eq]
  generalize (lg_sl ([.ref (ad 0), .int x1]) ++ List.replicate (3 - (lg_sl ([.ref (ad 0), .int x1])).length) Slot.unset).toArray = ls at hl ⊢
  replace hl : lv_has ls 3 [(0, .ref (ad 0)), (1, .int x1)] := hl
  have L32 : ∀ (n : Nat) (u : ts_S) (x1 x2 : Int32) (H : Heap) (locs : List Loc) (ls : Array Slot), dt_empty_32 n u x1 x2 = some (r0, u0) → ts_W tF D ca ad A s H locs u → lv_has ls 3 [(0, .ref (ad 0)), (1, .int x1), (2, .int x2)] → W p l e rT_empty s m args below meth c H locs 0 0 (MQ below (va_Qi (fun r v => r = r0 ∧ v = u0) (ts_post tF D ca ad A) A) args s 0 0 A) (F0 m 32 ls []) := by
    intro n
    induction n with
    | zero => intro u x1 x2 H locs ls hd; cases (show (none : Option (Int32 × ts_S)) = some (r0, u0) from hd)
    | succ n32 ih32 =>
      intro u x1 x2 H locs ls hd hw hl
      replace hd : dt_empty_32_b (dt_empty_32 n32) u x1 x2 = some (r0, u0) := hd
      unfold dt_empty_32_b at hd
      refine lv_iload_n hx hb dT_empty_32 rfl (lv_at hl 2 rfl) ?_
      refine lv_aload_n hx hb dT_empty_33 rfl (lv_at hl 0 rfl) ?_
      refine gT_41 hc hn hw dT_empty_34 ?_
      refine lv_icmp_ge (tgt := 57) hx hb dT_empty_37 (by decide) (fun cq => ?_) (fun cq => ?_)
      · replace hd := ts_if_p cq hd
        refine lv_aload_n hx hb dT_empty_57 rfl (lv_at hl 0 rfl) ?_
        refine gT_61 hc hn hw dT_empty_58 ?_
        refine gT_131 hc hn hw dT_empty_61 ?_
        refine lv_iload_n hx hb dT_empty_64 rfl (lv_at hl 1 rfl) ?_
        refine lv_iconst (v := 0) hx hb dT_empty_65 (by decide) ?_
        obtain ⟨h, hd⟩ := ts_ix_s hd
        refine tt_s10 hc hw h dT_empty_66 (fun H locs hw => ?_)
        refine lv_aload_n hx hb dT_empty_67 rfl (lv_at hl 0 rfl) ?_
        refine gT_41 hc hn hw dT_empty_68 ?_
        exact ts_iret hx hb hr hlk (vp_nar_int _) hw hd dT_empty_71
      · replace hd := ts_if_n cq hd
        refine lv_aload_n hx hb dT_empty_40 rfl (lv_at hl 0 rfl) ?_
        refine lv_aload_n hx hb dT_empty_41 rfl (lv_at hl 0 rfl) ?_
        refine gT_38 hc hn hw dT_empty_42 ?_
        refine lv_iload_n hx hb dT_empty_45 rfl (lv_at hl 2 rfl) ?_
        obtain ⟨h, hd⟩ := ts_ix_s hd
        refine tt_l9 hc hw h dT_empty_46 ?_
        refine lv_iload_n hx hb dT_empty_47 rfl (lv_at hl 1 rfl) ?_
        obtain ⟨r48, u48, hq, hd⟩ := ts_b_s hd
        refine cT_128 hc hn hw hq hl.1 ⟨Nat.le_of_ble_eq_true rfl, Nat.le_of_ble_eq_true rfl⟩ (Nat.le_of_ble_eq_true rfl) dT_empty_48 (fun H locs hw => ?_)
        refine lv_iinc (v := (x2 + 1)) (lv' := [(2, .int (x2 + 1)), (0, .ref (ad 0)), (1, .int x1)]) hx hb dT_empty_51 hl (k := 2) rfl rfl (by decide) rfl (fun ls hl => ?_)
        refine lv_goto (tgt := 32) hx hb dT_empty_54 (by decide) ?_
        exact ih32 u48 x1 (x2 + 1) _ _ _ hd hw (lv_sub hl [1, 2, 0] rfl)
  unfold dt_empty at hd
  refine lv_iload_n hx hb dT_empty_0 rfl (lv_at hl 1 rfl) ?_
  obtain ⟨r1, u1, hq, hd⟩ := ts_b_s hd
  refine cT_119 hc hn hw hq hl.1 ⟨Nat.le_of_ble_eq_true rfl, Nat.le_of_ble_eq_true rfl⟩ (Nat.le_of_ble_eq_true rfl) dT_empty_1 (fun H locs hw => ?_)
  refine lv_if_ne (tgt := 9) hx hb dT_empty_4 (by decide) (fun cq => ?_) (fun cq => ?_)
  · replace hd := ts_if_n cq hd
    refine lv_aload_n hx hb dT_empty_9 rfl (lv_at hl 0 rfl) ?_
    refine lv_iconst (v := 0) hx hb dT_empty_10 (by decide) ?_
    refine pT_41 hc hn hw dT_empty_11 (fun H locs hw => ?_)
    refine lv_aload_n hx hb dT_empty_14 rfl (lv_at hl 0 rfl) ?_
    refine lv_iload_n hx hb dT_empty_15 rfl (lv_at hl 1 rfl) ?_
    obtain ⟨r16, u16, hq, hd⟩ := ts_b_s hd
    refine cT_122 hc hn hw hq hl.1 ⟨Nat.le_of_ble_eq_true rfl, Nat.le_of_ble_eq_true rfl⟩ (Nat.le_of_ble_eq_true rfl) dT_empty_16 (fun H locs hw => ?_)
    refine lv_aload_n hx hb dT_empty_19 rfl (lv_at hl 0 rfl) ?_
    refine lv_iload_n hx hb dT_empty_20 rfl (lv_at hl 1 rfl) ?_
    obtain ⟨r21, u21, hq, hd⟩ := ts_b_s hd
    refine cT_125 hc hn hw hq hl.1 ⟨Nat.le_of_ble_eq_true rfl, Nat.le_of_ble_eq_true rfl⟩ (Nat.le_of_ble_eq_true rfl) dT_empty_21 (fun H locs hw => ?_)
    refine lv_if_ne (tgt := 30) hx hb dT_empty_24 (by decide) (fun cq => ?_) (fun cq => ?_)
    · replace hd := ts_if_n cq hd
      refine lv_iconst (v := 0) hx hb dT_empty_30 (by decide) ?_
      refine lv_istore_n (lv' := [(2, .int 0), (0, .ref (ad 0)), (1, .int x1)]) hx hb dT_empty_31 rfl hl (by decide) rfl (fun ls hl => ?_)
      exact L32 40 u21 x1 0 _ _ _ hd hw (lv_sub hl [1, 2, 0] rfl)
    · replace hd := ts_if_p cq hd
      refine lv_bipush (v := (-2)) hx hb dT_empty_27 (by decide) ?_
      exact ts_iret hx hb hr hlk (vp_nar_int _) hw hd dT_empty_29
  · replace hd := ts_if_p cq hd
    refine lv_iconst (v := (-1)) hx hb dT_empty_7 (by decide) ?_
    exact ts_iret hx hb hr hlk (vp_nar_int _) hw hd dT_empty_8
def rP_replace : Room := { frames := 0, cells := 0, slots := 0, locals := 0 }
set_option maxHeartbeats 4000000 in
set_option maxRecDepth 100000 in
theorem cp_replace (l : Launch) {u : ts_S} {x1 : Int32} {r0 : Int32} {u0 : ts_S} (hd : dp_replace u x1 = some (r0, u0)) : ts_Cv tF l yP_replace (.code yP_replace bP_replace 2 none :: uW) rP_replace (fun ad => [.ref (ad 1), .int x1]) u u0 := by
  refine ts_in_v tF l (by decide) (fun p e s m args below meth c D ca ad A hc hn hr hlk hw => ?_)
  have hx := hc.1
  have hb := hc.2.1
  have hl := lv_entry ([.ref (ad 1), .int x1]) (n := 2) (Nat.le_of_ble_eq_true rfl)
  rw [lg_entry_eq]
  generalize (lg_sl ([.ref (ad 1), .int x1]) ++ List.replicate (2 - (lg_sl ([.ref (ad 1), .int x1])).length) Slot.unset).toArray = ls at hl ⊢
  replace hl : lv_has ls 2 [(0, .ref (ad 1)), (1, .int x1)] := hl
  unfold dp_replace at hd
  refine lv_aload_n hx hb dP_replace_0 rfl (lv_at hl 0 rfl) ?_
  refine gP_9 hc hn hw dP_replace_1 ?_
  refine lv_iload_n hx hb dP_replace_4 rfl (lv_at hl 1 rfl) ?_
  refine lv_iconst (v := 0) hx hb dP_replace_5 (by decide) ?_
  obtain ⟨h, hd⟩ := ts_ix_s hd
  refine tt_s10 hc hw h dP_replace_6 (fun H locs hw => ?_)
  refine lv_aload_n hx hb dP_replace_7 rfl (lv_at hl 0 rfl) ?_
  refine gP_18 hc hn hw dP_replace_8 ?_
  refine lv_iload_n hx hb dP_replace_11 rfl (lv_at hl 1 rfl) ?_
  refine lv_icmp_ne (tgt := 25) hx hb dP_replace_12 (by decide) (fun cq => ?_) (fun cq => ?_)
  · replace hd := ts_if_n cq hd
    exact ts_vret hx hb hr hlk hw hd dP_replace_25
  · replace hd := ts_if_p cq hd
    refine lv_aload_n hx hb dP_replace_15 rfl (lv_at hl 0 rfl) ?_
    refine lv_iconst (v := (-1)) hx hb dP_replace_16 (by decide) ?_
    refine pP_18 hc hn hw dP_replace_17 (fun H locs hw => ?_)
    refine lv_aload_n hx hb dP_replace_20 rfl (lv_at hl 0 rfl) ?_
    refine lv_iconst (v := 0) hx hb dP_replace_21 (by decide) ?_
    refine pP_22 hc hn hw dP_replace_22 (fun H locs hw => ?_)
    exact ts_vret hx hb hr hlk hw hd dP_replace_25
section
variable {p : Program} {l : Launch} {e : Env} {R : Room} {s : State} {m : MethodId} {args : Array Value} {below : List Frame} {meth : Method} {c : Code} {H : Heap} {locs : List Loc} {Q : State → Prop} {cc : ByteArray} {pc nL : Nat} {ls : Array Slot} {rest : List Value} {D : va_G} {ca : Nat → ClassId} {ad : Nat → Nat} {A : Nat → Prop} {u : ts_S} {cells slots : Nat}
theorem cT_137 (hc : CallFix p m c cc nL s args uW RT) (hn : nx s) (hw : ts_W tF D ca ad A s H locs u) {x1 : Int32} {r0 : Int32} {u0 : ts_S} (hq : dp_replace u x1 = some (r0, u0)) (hsz : ls.size = nL) (hR : rP_replace.frames + 1 ≤ R.frames ∧ 8 + (2 + 11) + rP_replace.locals ≤ R.locals) (hrest : (rest.map fun v => v.category).sum ≤ 8) (hdg : decode cc pc = .ok (.invokevirtual 137, 3)) (kk : ∀ (H1 : Heap) (locs1 : List Loc), ts_W tF D ca ad A s H1 locs1 u0 → W p l e R s m args below meth c H1 locs1 0 0 Q (F0 m (pc + 3) ls rest)) : W p l e R s m args below meth c H locs 0 0 Q (F0 m pc ls (.int x1 :: .ref (ad 1) :: rest)) :=
  ts_callNv (b := ad 1) (As := [.int x1]) hc hn hw (cp_replace l hq) rfl ⟨va_cnB 1 hc.2.2.2.2 (gd_N (code_P_replace)) rfl rfl rfl (hn (.methodLinkNest RT 137 yP_replace "TierStore") (by decide +kernel)) (hc.2.2.2.2 (.initialized RP) (by decide +kernel)) (by decide +kernel) hR, hc.2.2.2.2 (.instanceMethod yP_replace) (by decide +kernel), hc.2.2.2.2 (.selects RP yP_replace yP_replace) (by decide +kernel)⟩ (va_recv hw.2.2.2.1 hw.1 (ci := 0) (q0 := 1) rfl rfl) rfl hsz hrest hdg kk
end
def rT_lose : Room := { frames := 2, cells := 0, slots := 0, locals := 43 }
set_option maxHeartbeats 4000000 in
set_option maxRecDepth 100000 in
theorem ct_lose (l : Launch) {u : ts_S} {x1 : Int32} {r0 : Int32} {u0 : ts_S} (hd : dt_lose u x1 = some (r0, u0)) : ts_Ci tF l yT_lose (.code yT_lose bT_lose 4 (some .int) :: uW) rT_lose (fun ad => [.ref (ad 0), .int x1]) u r0 u0 := by
  refine ts_in_i tF l (by decide) (fun p e s m args below meth c D ca ad A hc hn hr hlk hw => ?_)
  have hx := hc.1
  have hb := hc.2.1
  have hl := lv_entry ([.ref (ad 0), .int x1]) (n := 4) (Nat.le_of_ble_eq_true rfl)
  rw [lg_entry_eq]
  generalize (lg_sl ([.ref (ad 0), .int x1]) ++ List.replicate (4 - (lg_sl ([.ref (ad 0), .int x1])).length) Slot.unset).toArray = ls at hl ⊢
  replace hl : lv_has ls 4 [(0, .ref (ad 0)), (1, .int x1)] := hl
  have L13 : ∀ (n : Nat) (u : ts_S) (x1 x2 x3 : Int32) (H : Heap) (locs : List Loc) (ls : Array Slot), dt_lose_13 n u x1 x2 x3 = some (r0, u0) → ts_W tF D ca ad A s H locs u → lv_has ls 4 [(0, .ref (ad 0)), (1, .int x1), (2, .int x2), (3, .int x3)] → W p l e rT_lose s m args below meth c H locs 0 0 (MQ below (va_Qi (fun r v => r = r0 ∧ v = u0) (ts_post tF D ca ad A) A) args s 0 0 A) (F0 m 13 ls []) := by
    intro n
    induction n with
    | zero => intro u x1 x2 x3 H locs ls hd; cases (show (none : Option (Int32 × ts_S)) = some (r0, u0) from hd)
    | succ n13 ih13 =>
      intro u x1 x2 x3 H locs ls hd hw hl
      replace hd : dt_lose_13_b (dt_lose_13 n13) u x1 x2 x3 = some (r0, u0) := hd
      unfold dt_lose_13_b at hd
      refine lv_iload_n hx hb dT_lose_13 rfl (lv_at hl 3 rfl) ?_
      refine lv_bipush (v := 16) hx hb dT_lose_14 (by decide) ?_
      refine lv_icmp_ge (tgt := 67) hx hb dT_lose_16 (by decide) (fun cq => ?_) (fun cq => ?_)
      · replace hd := ts_if_p cq hd
        refine lv_aload_n hx hb dT_lose_67 rfl (lv_at hl 0 rfl) ?_
        refine gT_61 hc hn hw dT_lose_68 ?_
        refine lv_iload_n hx hb dT_lose_71 rfl (lv_at hl 1 rfl) ?_
        obtain ⟨r72, u72, hq, hd⟩ := ts_b_s hd
        refine cT_137 hc hn hw hq hl.1 ⟨Nat.le_of_ble_eq_true rfl, Nat.le_of_ble_eq_true rfl⟩ (Nat.le_of_ble_eq_true rfl) dT_lose_72 (fun H locs hw => ?_)
        refine lv_iload_n hx hb dT_lose_75 rfl (lv_at hl 2 rfl) ?_
        exact ts_iret hx hb hr hlk (vp_nar_int _) hw hd dT_lose_76
      · replace hd := ts_if_n cq hd
        refine lv_aload_n hx hb dT_lose_19 rfl (lv_at hl 0 rfl) ?_
        refine lv_iload_n hx hb dT_lose_20 rfl (lv_at hl 3 rfl) ?_
        refine lv_iload_n hx hb dT_lose_21 rfl (lv_at hl 1 rfl) ?_
        obtain ⟨r22, u22, hq, hd⟩ := ts_b_s hd
        refine cT_134 hc hn hw hq hl.1 ⟨Nat.le_of_ble_eq_true rfl, Nat.le_of_ble_eq_true rfl⟩ (Nat.le_of_ble_eq_true rfl) dT_lose_22 (fun H locs hw => ?_)
        refine lv_if_ne (tgt := 31) hx hb dT_lose_25 (by decide) (fun cq => ?_) (fun cq => ?_)
        · replace hd := ts_if_n cq hd
          refine lv_aload_n hx hb dT_lose_31 rfl (lv_at hl 0 rfl) ?_
          refine gT_9 hc hn hw dT_lose_32 ?_
          refine lv_iload_n hx hb dT_lose_35 rfl (lv_at hl 3 rfl) ?_
          obtain ⟨h, hd⟩ := ts_ix_s hd
          refine tt_l2 hc hw h dT_lose_36 ?_
          refine lv_iconst (v := 3) hx hb dT_lose_37 (by decide) ?_
          refine lv_icmp_ne (tgt := 54) hx hb dT_lose_38 (by decide) (fun cq => ?_) (fun cq => ?_)
          · replace hd := ts_if_n cq hd
            refine lv_aload_n hx hb dT_lose_54 rfl (lv_at hl 0 rfl) ?_
            refine gT_9 hc hn hw dT_lose_55 ?_
            refine lv_iload_n hx hb dT_lose_58 rfl (lv_at hl 3 rfl) ?_
            refine lv_iconst (v := 1) hx hb dT_lose_59 (by decide) ?_
            obtain ⟨h, hd⟩ := ts_ix_s hd
            refine tt_s2 hc hw h dT_lose_60 (fun H locs hw => ?_)
            refine lv_iinc (v := (x3 + 1)) (lv' := [(3, .int (x3 + 1)), (0, .ref (ad 0)), (1, .int x1), (2, .int x2)]) hx hb dT_lose_61 hl (k := 3) rfl rfl (by decide) rfl (fun ls hl => ?_)
            refine lv_goto (tgt := 13) hx hb dT_lose_64 (by decide) ?_
            exact ih13 (ts_a 2 x3.toNatClampNeg 1 u22) x1 x2 (x3 + 1) _ _ _ hd hw (lv_sub hl [1, 2, 3, 0] rfl)
          · replace hd := ts_if_p cq hd
            refine lv_aload_n hx hb dT_lose_41 rfl (lv_at hl 0 rfl) ?_
            refine gT_9 hc hn hw dT_lose_42 ?_
            refine lv_iload_n hx hb dT_lose_45 rfl (lv_at hl 3 rfl) ?_
            refine lv_iconst (v := 4) hx hb dT_lose_46 (by decide) ?_
            obtain ⟨h, hd⟩ := ts_ix_s hd
            refine tt_s2 hc hw h dT_lose_47 (fun H locs hw => ?_)
            refine lv_iinc (v := (x2 + 1)) (lv' := [(2, .int (x2 + 1)), (0, .ref (ad 0)), (1, .int x1), (3, .int x3)]) hx hb dT_lose_48 hl (k := 2) rfl rfl (by decide) rfl (fun ls hl => ?_)
            refine lv_goto (tgt := 61) hx hb dT_lose_51 (by decide) ?_
            refine lv_iinc (v := (x3 + 1)) (lv' := [(3, .int (x3 + 1)), (2, .int (x2 + 1)), (0, .ref (ad 0)), (1, .int x1)]) hx hb dT_lose_61 hl (k := 3) rfl rfl (by decide) rfl (fun ls hl => ?_)
            refine lv_goto (tgt := 13) hx hb dT_lose_64 (by decide) ?_
            exact ih13 (ts_a 2 x3.toNatClampNeg 4 u22) x1 (x2 + 1) (x3 + 1) _ _ _ hd hw (lv_sub hl [2, 3, 1, 0] rfl)
        · replace hd := ts_if_p cq hd
          refine lv_goto (tgt := 61) hx hb dT_lose_28 (by decide) ?_
          refine lv_iinc (v := (x3 + 1)) (lv' := [(3, .int (x3 + 1)), (0, .ref (ad 0)), (1, .int x1), (2, .int x2)]) hx hb dT_lose_61 hl (k := 3) rfl rfl (by decide) rfl (fun ls hl => ?_)
          refine lv_goto (tgt := 13) hx hb dT_lose_64 (by decide) ?_
          exact ih13 u22 x1 x2 (x3 + 1) _ _ _ hd hw (lv_sub hl [1, 2, 3, 0] rfl)
  unfold dt_lose at hd
  refine lv_iload_n hx hb dT_lose_0 rfl (lv_at hl 1 rfl) ?_
  obtain ⟨r1, u1, hq, hd⟩ := ts_b_s hd
  refine cT_119 hc hn hw hq hl.1 ⟨Nat.le_of_ble_eq_true rfl, Nat.le_of_ble_eq_true rfl⟩ (Nat.le_of_ble_eq_true rfl) dT_lose_1 (fun H locs hw => ?_)
  refine lv_if_ne (tgt := 9) hx hb dT_lose_4 (by decide) (fun cq => ?_) (fun cq => ?_)
  · replace hd := ts_if_n cq hd
    refine lv_iconst (v := 0) hx hb dT_lose_9 (by decide) ?_
    refine lv_istore_n (lv' := [(2, .int 0), (0, .ref (ad 0)), (1, .int x1)]) hx hb dT_lose_10 rfl hl (by decide) rfl (fun ls hl => ?_)
    refine lv_iconst (v := 0) hx hb dT_lose_11 (by decide) ?_
    refine lv_istore_n (lv' := [(3, .int 0), (2, .int 0), (0, .ref (ad 0)), (1, .int x1)]) hx hb dT_lose_12 rfl hl (by decide) rfl (fun ls hl => ?_)
    exact L13 40 u1 x1 0 0 _ _ _ hd hw (lv_sub hl [2, 3, 1, 0] rfl)
  · replace hd := ts_if_p cq hd
    refine lv_iconst (v := (-1)) hx hb dT_lose_7 (by decide) ?_
    exact ts_iret hx hb hr hlk (vp_nar_int _) hw hd dT_lose_8
def rT_usedSince : Room := { frames := 0, cells := 0, slots := 0, locals := 0 }
set_option maxHeartbeats 4000000 in
set_option maxRecDepth 100000 in
theorem ct_usedSince (l : Launch) {u : ts_S} {x1 : Int32} {r0 : Int32} {u0 : ts_S} (hd : dt_usedSince u x1 = some (r0, u0)) : ts_Ci tF l yT_usedSince (.code yT_usedSince bT_usedSince 4 (some .int) :: uW) rT_usedSince (fun ad => [.ref (ad 0), .int x1]) u r0 u0 := by
  refine ts_in_i tF l (by decide) (fun p e s m args below meth c D ca ad A hc hn hr hlk hw => ?_)
  have hx := hc.1
  have hb := hc.2.1
  have hl := lv_entry ([.ref (ad 0), .int x1]) (n := 4) (Nat.le_of_ble_eq_true rfl)
  rw [lg_entry_eq]
  generalize (lg_sl ([.ref (ad 0), .int x1]) ++ List.replicate (4 - (lg_sl ([.ref (ad 0), .int x1])).length) Slot.unset).toArray = ls at hl ⊢
  replace hl : lv_has ls 4 [(0, .ref (ad 0)), (1, .int x1)] := hl
  have L4 : ∀ (n : Nat) (u : ts_S) (x1 x2 x3 : Int32) (H : Heap) (locs : List Loc) (ls : Array Slot), dt_usedSince_4 n u x1 x2 x3 = some (r0, u0) → ts_W tF D ca ad A s H locs u → lv_has ls 4 [(0, .ref (ad 0)), (1, .int x1), (2, .int x2), (3, .int x3)] → W p l e rT_usedSince s m args below meth c H locs 0 0 (MQ below (va_Qi (fun r v => r = r0 ∧ v = u0) (ts_post tF D ca ad A) A) args s 0 0 A) (F0 m 4 ls []) := by
    intro n
    induction n with
    | zero => intro u x1 x2 x3 H locs ls hd; cases (show (none : Option (Int32 × ts_S)) = some (r0, u0) from hd)
    | succ n4 ih4 =>
      intro u x1 x2 x3 H locs ls hd hw hl
      replace hd : dt_usedSince_4_b (dt_usedSince_4 n4) u x1 x2 x3 = some (r0, u0) := hd
      unfold dt_usedSince_4_b at hd
      refine lv_iload_n hx hb dT_usedSince_4 rfl (lv_at hl 3 rfl) ?_
      refine lv_bipush (v := 16) hx hb dT_usedSince_5 (by decide) ?_
      refine lv_icmp_ge (tgt := 43) hx hb dT_usedSince_7 (by decide) (fun cq => ?_) (fun cq => ?_)
      · replace hd := ts_if_p cq hd
        refine lv_iload_n hx hb dT_usedSince_43 rfl (lv_at hl 2 rfl) ?_
        exact ts_iret hx hb hr hlk (vp_nar_int _) hw hd dT_usedSince_44
      · replace hd := ts_if_n cq hd
        refine lv_aload_n hx hb dT_usedSince_10 rfl (lv_at hl 0 rfl) ?_
        refine gT_9 hc hn hw dT_usedSince_11 ?_
        refine lv_iload_n hx hb dT_usedSince_14 rfl (lv_at hl 3 rfl) ?_
        obtain ⟨h, hd⟩ := ts_ix_s hd
        refine tt_l2 hc hw h dT_usedSince_15 ?_
        refine lv_if_eq (tgt := 37) hx hb dT_usedSince_16 (by decide) (fun cq => ?_) (fun cq => ?_)
        · replace hd := ts_if_p cq hd
          refine lv_iinc (v := (x3 + 1)) (lv' := [(3, .int (x3 + 1)), (0, .ref (ad 0)), (1, .int x1), (2, .int x2)]) hx hb dT_usedSince_37 hl (k := 3) rfl rfl (by decide) rfl (fun ls hl => ?_)
          refine lv_goto (tgt := 4) hx hb dT_usedSince_40 (by decide) ?_
          exact ih4 u x1 x2 (x3 + 1) _ _ _ hd hw (lv_sub hl [1, 2, 3, 0] rfl)
        · replace hd := ts_if_n cq hd
          refine lv_aload_n hx hb dT_usedSince_19 rfl (lv_at hl 0 rfl) ?_
          refine gT_31 hc hn hw dT_usedSince_20 ?_
          refine lv_iload_n hx hb dT_usedSince_23 rfl (lv_at hl 3 rfl) ?_
          obtain ⟨h, hd⟩ := ts_ix_s hd
          refine tt_l8 hc hw h dT_usedSince_24 ?_
          refine lv_aload_n hx hb dT_usedSince_25 rfl (lv_at hl 0 rfl) ?_
          refine gT_31 hc hn hw dT_usedSince_26 ?_
          refine lv_iload_n hx hb dT_usedSince_29 rfl (lv_at hl 1 rfl) ?_
          obtain ⟨h, hd⟩ := ts_ix_s hd
          refine tt_l8 hc hw h dT_usedSince_30 ?_
          refine lv_icmp_le (tgt := 37) hx hb dT_usedSince_31 (by decide) (fun cq => ?_) (fun cq => ?_)
          · replace hd := ts_if_p cq hd
            refine lv_iinc (v := (x3 + 1)) (lv' := [(3, .int (x3 + 1)), (0, .ref (ad 0)), (1, .int x1), (2, .int x2)]) hx hb dT_usedSince_37 hl (k := 3) rfl rfl (by decide) rfl (fun ls hl => ?_)
            refine lv_goto (tgt := 4) hx hb dT_usedSince_40 (by decide) ?_
            exact ih4 u x1 x2 (x3 + 1) _ _ _ hd hw (lv_sub hl [1, 2, 3, 0] rfl)
          · replace hd := ts_if_n cq hd
            refine lv_iinc (v := (x2 + 1)) (lv' := [(2, .int (x2 + 1)), (0, .ref (ad 0)), (1, .int x1), (3, .int x3)]) hx hb dT_usedSince_34 hl (k := 2) rfl rfl (by decide) rfl (fun ls hl => ?_)
            refine lv_iinc (v := (x3 + 1)) (lv' := [(3, .int (x3 + 1)), (2, .int (x2 + 1)), (0, .ref (ad 0)), (1, .int x1)]) hx hb dT_usedSince_37 hl (k := 3) rfl rfl (by decide) rfl (fun ls hl => ?_)
            refine lv_goto (tgt := 4) hx hb dT_usedSince_40 (by decide) ?_
            exact ih4 u x1 (x2 + 1) (x3 + 1) _ _ _ hd hw (lv_sub hl [2, 3, 1, 0] rfl)
  unfold dt_usedSince at hd
  refine lv_iconst (v := 0) hx hb dT_usedSince_0 (by decide) ?_
  refine lv_istore_n (lv' := [(2, .int 0), (0, .ref (ad 0)), (1, .int x1)]) hx hb dT_usedSince_1 rfl hl (by decide) rfl (fun ls hl => ?_)
  refine lv_iconst (v := 0) hx hb dT_usedSince_2 (by decide) ?_
  refine lv_istore_n (lv' := [(3, .int 0), (2, .int 0), (0, .ref (ad 0)), (1, .int x1)]) hx hb dT_usedSince_3 rfl hl (by decide) rfl (fun ls hl => ?_)
  exact L4 40 u x1 0 0 _ _ _ hd hw (lv_sub hl [2, 3, 1, 0] rfl)
section
variable {p : Program} {l : Launch} {e : Env} {R : Room} {s : State} {m : MethodId} {args : Array Value} {below : List Frame} {meth : Method} {c : Code} {H : Heap} {locs : List Loc} {Q : State → Prop} {cc : ByteArray} {pc nL : Nat} {ls : Array Slot} {rest : List Value} {D : va_G} {ca : Nat → ClassId} {ad : Nat → Nat} {A : Nat → Prop} {u : ts_S} {cells slots : Nat}
theorem cT_143 (hc : CallFix p m c cc nL s args uW RT) (hn : nx s) (hw : ts_W tF D ca ad A s H locs u) {x1 : Int32} {r0 : Int32} {u0 : ts_S} (hq : dt_usedSince u x1 = some (r0, u0)) (hsz : ls.size = nL) (hR : rT_usedSince.frames + 1 ≤ R.frames ∧ 8 + (4 + 11) + rT_usedSince.locals ≤ R.locals) (hrest : (rest.map fun v => v.category).sum ≤ 8) (hdg : decode cc pc = .ok (.invokevirtual 143, 3)) (kk : ∀ (H1 : Heap) (locs1 : List Loc), ts_W tF D ca ad A s H1 locs1 u0 → W p l e R s m args below meth c H1 locs1 0 0 Q (F0 m (pc + 3) ls (.int r0 :: rest))) : W p l e R s m args below meth c H locs 0 0 Q (F0 m pc ls (.int x1 :: .ref (ad 0) :: rest)) :=
  ts_callVi (b := ad 0) (As := [.int x1]) hc hn hw (ct_usedSince l hq) rfl (cwV 1 hc.2.2.2.2 (gd_V (by decide +kernel) (by decide +kernel) (by decide +kernel) (by decide +kernel) (code_T_usedSince)) rfl rfl rfl (by decide +kernel) hR) (va_recv hw.2.2.2.1 hw.1 (ci := 1) (q0 := 0) rfl rfl) rfl hsz hrest hdg kk
end
def rT_file : Room := { frames := 1, cells := 0, slots := 0, locals := 23 }
set_option maxHeartbeats 4000000 in
set_option maxRecDepth 100000 in
theorem ct_file (l : Launch) {u : ts_S} {x1 x2 : Int32} {r0 : Int32} {u0 : ts_S} (hd : dt_file u x1 x2 = some (r0, u0)) : ts_Ci tF l yT_file (.code yT_file bT_file 4 (some .int) :: uW) rT_file (fun ad => [.ref (ad 0), .int x1, .int x2]) u r0 u0 := by
  refine ts_in_i tF l (by decide) (fun p e s m args below meth c D ca ad A hc hn hr hlk hw => ?_)
  have hx := hc.1
  have hb := hc.2.1
  have hl := lv_entry ([.ref (ad 0), .int x1, .int x2]) (n := 4) (Nat.le_of_ble_eq_true rfl)
  rw [lg_entry_eq]
  generalize (lg_sl ([.ref (ad 0), .int x1, .int x2]) ++ List.replicate (4 - (lg_sl ([.ref (ad 0), .int x1, .int x2])).length) Slot.unset).toArray = ls at hl ⊢
  replace hl : lv_has ls 4 [(0, .ref (ad 0)), (1, .int x1), (2, .int x2)] := hl
  unfold dt_file at hd
  refine lv_iload_n hx hb dT_file_0 rfl (lv_at hl 1 rfl) ?_
  obtain ⟨r1, u1, hq, hd⟩ := ts_b_s hd
  refine cT_65 hc hn hw hq hl.1 ⟨Nat.le_of_ble_eq_true rfl, Nat.le_of_ble_eq_true rfl⟩ (Nat.le_of_ble_eq_true rfl) dT_file_1 (fun H locs hw => ?_)
  refine lv_if_ne (tgt := 9) hx hb dT_file_4 (by decide) (fun cq => ?_) (fun cq => ?_)
  · replace hd := ts_if_n cq hd
    refine lv_aload_n hx hb dT_file_9 rfl (lv_at hl 0 rfl) ?_
    refine gT_9 hc hn hw dT_file_10 ?_
    refine lv_iload_n hx hb dT_file_13 rfl (lv_at hl 1 rfl) ?_
    obtain ⟨h, hd⟩ := ts_ix_s hd
    refine tt_l2 hc hw h dT_file_14 ?_
    refine lv_if_eq (tgt := 22) hx hb dT_file_15 (by decide) (fun cq => ?_) (fun cq => ?_)
    · replace hd := ts_if_p cq hd
      refine lv_iconst (v := 0) hx hb dT_file_22 (by decide) ?_
      refine lv_istore_n (lv' := [(3, .int 0), (0, .ref (ad 0)), (1, .int x1), (2, .int x2)]) hx hb dT_file_23 rfl hl (by decide) rfl (fun ls hl => ?_)
      refine lv_iload_n hx hb dT_file_24 rfl (lv_at hl 3 rfl) ?_
      by_cases c0 : x2 = 0
      · replace hd := ts_if_p c0 hd
        refine lv_tableIn (tgt := 64) hx hb dT_file_25 (by rw [c0]; decide) (by rw [c0]; decide) (by rw [c0]; rfl) (by decide) ?_
        refine lv_aload_n hx hb dT_file_64 rfl (lv_at hl 1 rfl) ?_
        refine gT_9 hc hn hw dT_file_65 ?_
        refine lv_iload_n hx hb dT_file_68 rfl (lv_at hl 2 rfl) ?_
        obtain ⟨h, hd⟩ := ts_ix_s hd
        refine tt_l2 hc hw h dT_file_69 ?_
        exact ts_iret hx hb hr hlk (vp_nar_int _) hw hd dT_file_70
      replace hd := ts_if_n c0 hd
      by_cases c1 : x2 = 1
      · replace hd := ts_if_p c1 hd
        refine lv_tableIn (tgt := 71) hx hb dT_file_25 (by rw [c1]; decide) (by rw [c1]; decide) (by rw [c1]; rfl) (by decide) ?_
        refine lv_iload_n hx hb dT_file_71 rfl (lv_at hl 0 rfl) ?_
        refine lv_if_eq (tgt := 84) hx hb dT_file_72 (by decide) (fun cq => ?_) (fun cq => ?_)
        · refine lv_iconst (v := 0) hx hb dT_file_84 (by decide) ?_
          exact ts_iret hx hb hr hlk (vp_nar_int _) hw hd dT_file_85
        · exact absurd cq (by decide)
      replace hd := ts_if_n c1 hd
      by_cases c2 : x2 = 2
      · replace hd := ts_if_p c2 hd
        refine lv_tableIn (tgt := 86) hx hb dT_file_25 (by rw [c2]; decide) (by rw [c2]; decide) (by rw [c2]; rfl) (by decide) ?_
        refine lv_aload_n hx hb dT_file_86 rfl (lv_at hl 1 rfl) ?_
        refine lv_iload_n hx hb dT_file_87 rfl (lv_at hl 2 rfl) ?_
        obtain ⟨r88, u88, hq, hd⟩ := ts_b_s hd
        refine cT_140 hc hn hw hq hl.1 ⟨Nat.le_of_ble_eq_true rfl, Nat.le_of_ble_eq_true rfl⟩ (Nat.le_of_ble_eq_true rfl) dT_file_88 (fun H locs hw => ?_)
        refine lv_if_eq (tgt := 103) hx hb dT_file_91 (by decide) (fun cq => ?_) (fun cq => ?_)
        · replace hd := ts_if_p cq hd
          refine lv_iconst (v := (-1)) hx hb dT_file_103 (by decide) ?_
          exact ts_iret hx hb hr hlk (vp_nar_int _) hw hd dT_file_104
        · replace hd := ts_if_n cq hd
          refine lv_aload_n hx hb dT_file_94 rfl (lv_at hl 1 rfl) ?_
          refine gT_21 hc hn hw dT_file_95 ?_
          refine lv_iload_n hx hb dT_file_98 rfl (lv_at hl 2 rfl) ?_
          obtain ⟨h, hd⟩ := ts_ix_s hd
          refine tt_l5 hc hw h dT_file_99 ?_
          refine lv_goto (tgt := 104) hx hb dT_file_100 (by decide) ?_
          exact ts_iret hx hb hr hlk (vp_nar_int _) hw hd dT_file_104
      replace hd := ts_if_n c2 hd
      by_cases c3 : x2 = 3
      · replace hd := ts_if_p c3 hd
        refine lv_tableIn (tgt := 105) hx hb dT_file_25 (by rw [c3]; decide) (by rw [c3]; decide) (by rw [c3]; rfl) (by decide) ?_
        refine lv_aload_n hx hb dT_file_105 rfl (lv_at hl 1 rfl) ?_
        refine lv_iload_n hx hb dT_file_106 rfl (lv_at hl 2 rfl) ?_
        obtain ⟨r107, u107, hq, hd⟩ := ts_b_s hd
        refine cT_140 hc hn hw hq hl.1 ⟨Nat.le_of_ble_eq_true rfl, Nat.le_of_ble_eq_true rfl⟩ (Nat.le_of_ble_eq_true rfl) dT_file_107 (fun H locs hw => ?_)
        refine lv_if_eq (tgt := 122) hx hb dT_file_110 (by decide) (fun cq => ?_) (fun cq => ?_)
        · replace hd := ts_if_p cq hd
          refine lv_iconst (v := (-1)) hx hb dT_file_122 (by decide) ?_
          exact ts_iret hx hb hr hlk (vp_nar_int _) hw hd dT_file_123
        · replace hd := ts_if_n cq hd
          refine lv_aload_n hx hb dT_file_113 rfl (lv_at hl 1 rfl) ?_
          refine gT_24 hc hn hw dT_file_114 ?_
          refine lv_iload_n hx hb dT_file_117 rfl (lv_at hl 2 rfl) ?_
          obtain ⟨h, hd⟩ := ts_ix_s hd
          refine tt_l6 hc hw h dT_file_118 ?_
          refine lv_goto (tgt := 123) hx hb dT_file_119 (by decide) ?_
          exact ts_iret hx hb hr hlk (vp_nar_int _) hw hd dT_file_123
      replace hd := ts_if_n c3 hd
      by_cases c4 : x2 = 4
      · replace hd := ts_if_p c4 hd
        refine lv_tableIn (tgt := 124) hx hb dT_file_25 (by rw [c4]; decide) (by rw [c4]; decide) (by rw [c4]; rfl) (by decide) ?_
        refine lv_aload_n hx hb dT_file_124 rfl (lv_at hl 1 rfl) ?_
        refine gT_27 hc hn hw dT_file_125 ?_
        refine lv_iload_n hx hb dT_file_128 rfl (lv_at hl 2 rfl) ?_
        obtain ⟨h, hd⟩ := ts_ix_s hd
        refine tt_l7 hc hw h dT_file_129 ?_
        refine lv_if_eq (tgt := 137) hx hb dT_file_130 (by decide) (fun cq => ?_) (fun cq => ?_)
        · replace hd := ts_if_p cq hd
          refine lv_iconst (v := 0) hx hb dT_file_137 (by decide) ?_
          exact ts_iret hx hb hr hlk (vp_nar_int _) hw hd dT_file_138
        · replace hd := ts_if_n cq hd
          refine lv_iconst (v := 1) hx hb dT_file_133 (by decide) ?_
          refine lv_goto (tgt := 138) hx hb dT_file_134 (by decide) ?_
          exact ts_iret hx hb hr hlk (vp_nar_int _) hw hd dT_file_138
      replace hd := ts_if_n c4 hd
      by_cases c5 : x2 = 5
      · replace hd := ts_if_p c5 hd
        refine lv_tableIn (tgt := 139) hx hb dT_file_25 (by rw [c5]; decide) (by rw [c5]; decide) (by rw [c5]; rfl) (by decide) ?_
        refine lv_iload_n hx hb dT_file_139 rfl (lv_at hl 0 rfl) ?_
        refine lv_if_eq (tgt := 151) hx hb dT_file_140 (by decide) (fun cq => ?_) (fun cq => ?_)
        · refine lv_iconst (v := (-1)) hx hb dT_file_151 (by decide) ?_
          exact ts_iret hx hb hr hlk (vp_nar_int _) hw hd dT_file_152
        · exact absurd cq (by decide)
      replace hd := ts_if_n c5 hd
      have n0 := lv_neT c0 (a := 0) (by decide)
      have n1 := lv_neT c1 (a := 1) (by decide)
      have n2 := lv_neT c2 (a := 2) (by decide)
      have n3 := lv_neT c3 (a := 3) (by decide)
      have n4 := lv_neT c4 (a := 4) (by decide)
      have n5 := lv_neT c5 (a := 5) (by decide)
      refine lv_tableOut (tgt := 153) hx hb dT_file_25 (by omega) (by decide) ?_
      refine lv_iconst (v := (-1)) hx hb dT_file_153 (by decide) ?_
      exact ts_iret hx hb hr hlk (vp_nar_int _) hw hd dT_file_154
    · replace hd := ts_if_n cq hd
      refine lv_iconst (v := 1) hx hb dT_file_18 (by decide) ?_
      refine lv_goto (tgt := 23) hx hb dT_file_19 (by decide) ?_
      refine lv_istore_n (lv' := [(3, .int 1), (0, .ref (ad 0)), (1, .int x1), (2, .int x2)]) hx hb dT_file_23 rfl hl (by decide) rfl (fun ls hl => ?_)
      refine lv_iload_n hx hb dT_file_24 rfl (lv_at hl 3 rfl) ?_
      by_cases c0 : x2 = 0
      · replace hd := ts_if_p c0 hd
        refine lv_tableIn (tgt := 64) hx hb dT_file_25 (by rw [c0]; decide) (by rw [c0]; decide) (by rw [c0]; rfl) (by decide) ?_
        refine lv_aload_n hx hb dT_file_64 rfl (lv_at hl 1 rfl) ?_
        refine gT_9 hc hn hw dT_file_65 ?_
        refine lv_iload_n hx hb dT_file_68 rfl (lv_at hl 2 rfl) ?_
        obtain ⟨h, hd⟩ := ts_ix_s hd
        refine tt_l2 hc hw h dT_file_69 ?_
        exact ts_iret hx hb hr hlk (vp_nar_int _) hw hd dT_file_70
      replace hd := ts_if_n c0 hd
      by_cases c1 : x2 = 1
      · replace hd := ts_if_p c1 hd
        refine lv_tableIn (tgt := 71) hx hb dT_file_25 (by rw [c1]; decide) (by rw [c1]; decide) (by rw [c1]; rfl) (by decide) ?_
        refine lv_iload_n hx hb dT_file_71 rfl (lv_at hl 0 rfl) ?_
        refine lv_if_eq (tgt := 84) hx hb dT_file_72 (by decide) (fun cq => ?_) (fun cq => ?_)
        · exact absurd cq (by decide)
        · refine lv_aload_n hx hb dT_file_75 rfl (lv_at hl 1 rfl) ?_
          refine gT_13 hc hn hw dT_file_76 ?_
          refine lv_iload_n hx hb dT_file_79 rfl (lv_at hl 2 rfl) ?_
          obtain ⟨h, hd⟩ := ts_ix_s hd
          refine tt_l3 hc hw h dT_file_80 ?_
          refine lv_goto (tgt := 85) hx hb dT_file_81 (by decide) ?_
          exact ts_iret hx hb hr hlk (vp_nar_int _) hw hd dT_file_85
      replace hd := ts_if_n c1 hd
      by_cases c2 : x2 = 2
      · replace hd := ts_if_p c2 hd
        refine lv_tableIn (tgt := 86) hx hb dT_file_25 (by rw [c2]; decide) (by rw [c2]; decide) (by rw [c2]; rfl) (by decide) ?_
        refine lv_aload_n hx hb dT_file_86 rfl (lv_at hl 1 rfl) ?_
        refine lv_iload_n hx hb dT_file_87 rfl (lv_at hl 2 rfl) ?_
        obtain ⟨r88, u88, hq, hd⟩ := ts_b_s hd
        refine cT_140 hc hn hw hq hl.1 ⟨Nat.le_of_ble_eq_true rfl, Nat.le_of_ble_eq_true rfl⟩ (Nat.le_of_ble_eq_true rfl) dT_file_88 (fun H locs hw => ?_)
        refine lv_if_eq (tgt := 103) hx hb dT_file_91 (by decide) (fun cq => ?_) (fun cq => ?_)
        · replace hd := ts_if_p cq hd
          refine lv_iconst (v := (-1)) hx hb dT_file_103 (by decide) ?_
          exact ts_iret hx hb hr hlk (vp_nar_int _) hw hd dT_file_104
        · replace hd := ts_if_n cq hd
          refine lv_aload_n hx hb dT_file_94 rfl (lv_at hl 1 rfl) ?_
          refine gT_21 hc hn hw dT_file_95 ?_
          refine lv_iload_n hx hb dT_file_98 rfl (lv_at hl 2 rfl) ?_
          obtain ⟨h, hd⟩ := ts_ix_s hd
          refine tt_l5 hc hw h dT_file_99 ?_
          refine lv_goto (tgt := 104) hx hb dT_file_100 (by decide) ?_
          exact ts_iret hx hb hr hlk (vp_nar_int _) hw hd dT_file_104
      replace hd := ts_if_n c2 hd
      by_cases c3 : x2 = 3
      · replace hd := ts_if_p c3 hd
        refine lv_tableIn (tgt := 105) hx hb dT_file_25 (by rw [c3]; decide) (by rw [c3]; decide) (by rw [c3]; rfl) (by decide) ?_
        refine lv_aload_n hx hb dT_file_105 rfl (lv_at hl 1 rfl) ?_
        refine lv_iload_n hx hb dT_file_106 rfl (lv_at hl 2 rfl) ?_
        obtain ⟨r107, u107, hq, hd⟩ := ts_b_s hd
        refine cT_140 hc hn hw hq hl.1 ⟨Nat.le_of_ble_eq_true rfl, Nat.le_of_ble_eq_true rfl⟩ (Nat.le_of_ble_eq_true rfl) dT_file_107 (fun H locs hw => ?_)
        refine lv_if_eq (tgt := 122) hx hb dT_file_110 (by decide) (fun cq => ?_) (fun cq => ?_)
        · replace hd := ts_if_p cq hd
          refine lv_iconst (v := (-1)) hx hb dT_file_122 (by decide) ?_
          exact ts_iret hx hb hr hlk (vp_nar_int _) hw hd dT_file_123
        · replace hd := ts_if_n cq hd
          refine lv_aload_n hx hb dT_file_113 rfl (lv_at hl 1 rfl) ?_
          refine gT_24 hc hn hw dT_file_114 ?_
          refine lv_iload_n hx hb dT_file_117 rfl (lv_at hl 2 rfl) ?_
          obtain ⟨h, hd⟩ := ts_ix_s hd
          refine tt_l6 hc hw h dT_file_118 ?_
          refine lv_goto (tgt := 123) hx hb dT_file_119 (by decide) ?_
          exact ts_iret hx hb hr hlk (vp_nar_int _) hw hd dT_file_123
      replace hd := ts_if_n c3 hd
      by_cases c4 : x2 = 4
      · replace hd := ts_if_p c4 hd
        refine lv_tableIn (tgt := 124) hx hb dT_file_25 (by rw [c4]; decide) (by rw [c4]; decide) (by rw [c4]; rfl) (by decide) ?_
        refine lv_aload_n hx hb dT_file_124 rfl (lv_at hl 1 rfl) ?_
        refine gT_27 hc hn hw dT_file_125 ?_
        refine lv_iload_n hx hb dT_file_128 rfl (lv_at hl 2 rfl) ?_
        obtain ⟨h, hd⟩ := ts_ix_s hd
        refine tt_l7 hc hw h dT_file_129 ?_
        refine lv_if_eq (tgt := 137) hx hb dT_file_130 (by decide) (fun cq => ?_) (fun cq => ?_)
        · replace hd := ts_if_p cq hd
          refine lv_iconst (v := 0) hx hb dT_file_137 (by decide) ?_
          exact ts_iret hx hb hr hlk (vp_nar_int _) hw hd dT_file_138
        · replace hd := ts_if_n cq hd
          refine lv_iconst (v := 1) hx hb dT_file_133 (by decide) ?_
          refine lv_goto (tgt := 138) hx hb dT_file_134 (by decide) ?_
          exact ts_iret hx hb hr hlk (vp_nar_int _) hw hd dT_file_138
      replace hd := ts_if_n c4 hd
      by_cases c5 : x2 = 5
      · replace hd := ts_if_p c5 hd
        refine lv_tableIn (tgt := 139) hx hb dT_file_25 (by rw [c5]; decide) (by rw [c5]; decide) (by rw [c5]; rfl) (by decide) ?_
        refine lv_iload_n hx hb dT_file_139 rfl (lv_at hl 0 rfl) ?_
        refine lv_if_eq (tgt := 151) hx hb dT_file_140 (by decide) (fun cq => ?_) (fun cq => ?_)
        · exact absurd cq (by decide)
        · refine lv_aload_n hx hb dT_file_143 rfl (lv_at hl 1 rfl) ?_
          refine lv_iload_n hx hb dT_file_144 rfl (lv_at hl 2 rfl) ?_
          obtain ⟨r145, u145, hq, hd⟩ := ts_b_s hd
          refine cT_143 hc hn hw hq hl.1 ⟨Nat.le_of_ble_eq_true rfl, Nat.le_of_ble_eq_true rfl⟩ (Nat.le_of_ble_eq_true rfl) dT_file_145 (fun H locs hw => ?_)
          refine lv_goto (tgt := 152) hx hb dT_file_148 (by decide) ?_
          exact ts_iret hx hb hr hlk (vp_nar_int _) hw hd dT_file_152
      replace hd := ts_if_n c5 hd
      have n0 := lv_neT c0 (a := 0) (by decide)
      have n1 := lv_neT c1 (a := 1) (by decide)
      have n2 := lv_neT c2 (a := 2) (by decide)
      have n3 := lv_neT c3 (a := 3) (by decide)
      have n4 := lv_neT c4 (a := 4) (by decide)
      have n5 := lv_neT c5 (a := 5) (by decide)
      refine lv_tableOut (tgt := 153) hx hb dT_file_25 (by omega) (by decide) ?_
      refine lv_iconst (v := (-1)) hx hb dT_file_153 (by decide) ?_
      exact ts_iret hx hb hr hlk (vp_nar_int _) hw hd dT_file_154
  · replace hd := ts_if_p cq hd
    refine lv_iconst (v := (-1)) hx hb dT_file_7 (by decide) ?_
    exact ts_iret hx hb hr hlk (vp_nar_int _) hw hd dT_file_8
