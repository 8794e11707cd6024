def rT_remove : Room := { frames := 2, cells := 0, slots := 0, locals := 41 }
set_option maxHeartbeats 4000000 in
set_option maxRecDepth 100000 in
theorem ct_remove (l : Launch) {u : ts_S} {x1 : Int32} {r0 : Int32} {u0 : ts_S} (hd : dt_remove u x1 = some (r0, u0)) : ts_Ci tF l yT_remove (.code yT_remove bT_remove 2 (some .int) :: uW) rT_remove (fun ad => [.ref (ad 0), .int x1]) u r0 u0 := by
  refine ts_in_i tF l (by decide) (fun p e s m args below meth c D ca ad A hc hn hr hlk hw => ?_)
  have hx := hc.1
  have hb := hc.2.1
  have hl := lv_entry ([.ref (ad 0), .int x1]) (n := 2) (Nat.le_of_ble_eq_true rfl)
  rw [lg_entry_eq]
  generalize (lg_sl ([.ref (ad 0), .int x1]) ++ List.replicate (2 - (lg_sl ([.ref (ad 0), .int x1])).length) Slot.unset).toArray = ls at hl ⊢
  replace hl : lv_has ls 2 [(0, .ref (ad 0)), (1, .int x1)] := hl
  unfold dt_remove at hd
  refine lv_aload_n hx hb dT_remove_0 rfl (lv_at hl 0 rfl) ?_
  refine lv_iload_n hx hb dT_remove_1 rfl (lv_at hl 1 rfl) ?_
  obtain ⟨r2, u2, hq, hd⟩ := ts_b_s hd
  refine cT_88 hc hn hw hq hl.1 ⟨Nat.le_of_ble_eq_true rfl, Nat.le_of_ble_eq_true rfl⟩ (Nat.le_of_ble_eq_true rfl) dT_remove_2 (fun H locs hw => ?_)
  refine lv_if_ne (tgt := 10) hx hb dT_remove_5 (by decide) (fun cq => ?_) (fun cq => ?_)
  · replace hd := ts_if_n cq hd
    refine lv_aload_n hx hb dT_remove_10 rfl (lv_at hl 0 rfl) ?_
    refine gT_9 hc hn hw dT_remove_11 ?_
    refine lv_iload_n hx hb dT_remove_14 rfl (lv_at hl 1 rfl) ?_
    refine lv_iconst (v := 0) hx hb dT_remove_15 (by decide) ?_
    obtain ⟨h, hd⟩ := ts_ix_s hd
    refine tt_s2 hc hw h dT_remove_16 (fun H locs hw => ?_)
    refine lv_aload_n hx hb dT_remove_17 rfl (lv_at hl 0 rfl) ?_
    refine gT_27 hc hn hw dT_remove_18 ?_
    refine lv_iload_n hx hb dT_remove_21 rfl (lv_at hl 1 rfl) ?_
    refine lv_iconst (v := 0) hx hb dT_remove_22 (by decide) ?_
    obtain ⟨h, hd⟩ := ts_ix_s hd
    refine tt_s7 hc hw h (by decide +kernel) dT_remove_23 (fun H locs hw => ?_)
    refine lv_iconst (v := 0) hx hb dT_remove_24 (by decide) ?_
    exact ts_iret hx hb hr hlk (vp_nar_int _) hw hd dT_remove_25
  · replace hd := ts_if_p cq hd
    refine lv_iconst (v := (-1)) hx hb dT_remove_8 (by decide) ?_
    exact ts_iret hx hb hr hlk (vp_nar_int _) hw hd dT_remove_9
def rP_firstFitting_10 : Room := { frames := 0, cells := 0, slots := 0, locals := 0 }
set_option maxHeartbeats 4000000 in
set_option maxRecDepth 100000 in
theorem cp_firstFitting_10 (l : Launch) {u : ts_S} {x2 x3 : Int32} {r0 : Int32} {u0 : ts_S} (hd : dp_firstFitting_10 u x2 x3 = some (r0, u0)) : ts_Ci tF l yP_firstFitting (.code yP_firstFitting bP_firstFitting 5 (some .int) :: uW) rP_firstFitting_10 (fun ad => [.ref (ad 1), .ref (ad 10), .int x2, .int x3]) u r0 u0 := by
  refine ts_in_i tF l (by decide) (fun p e s m args below meth c D ca ad A hc hn hr hlk hw => ?_)
  have hx := hc.1
  have hb := hc.2.1
  have hl := lv_entry ([.ref (ad 1), .ref (ad 10), .int x2, .int x3]) (n := 5) (Nat.le_of_ble_eq_true rfl)
  rw [lg_entry_eq]
  generalize (lg_sl ([.ref (ad 1), .ref (ad 10), .int x2, .int x3]) ++ List.replicate (5 - (lg_sl ([.ref (ad 1), .ref (ad 10), .int x2, .int x3])).length) Slot.unset).toArray = ls at hl ⊢
  replace hl : lv_has ls 5 [(0, .ref (ad 1)), (1, .ref (ad 10)), (2, .int x2), (3, .int x3)] := hl
  have L3 : ∀ (n : Nat) (u : ts_S) (x2 x3 x4 : Int32) (H : Heap) (locs : List Loc) (ls : Array Slot), dp_firstFitting_10_3 n u x2 x3 x4 = some (r0, u0) → ts_W tF D ca ad A s H locs u → lv_has ls 5 [(0, .ref (ad 1)), (1, .ref (ad 10)), (2, .int x2), (3, .int x3), (4, .int x4)] → W p l e rP_firstFitting_10 s m args below meth c H locs 0 0 (MQ below (va_Qi (fun r v => r = r0 ∧ v = u0) (ts_post tF D ca ad A) A) args s 0 0 A) (F0 m 3 ls []) := by
    intro n
    induction n with
    | zero => intro u x2 x3 x4 H locs ls hd; cases (show (none : Option (Int32 × ts_S)) = some (r0, u0) from hd)
    | succ n3 ih3 =>
      intro u x2 x3 x4 H locs ls hd hw hl
      replace hd : dp_firstFitting_10_3_b (dp_firstFitting_10_3 n3) u x2 x3 x4 = some (r0, u0) := hd
      unfold dp_firstFitting_10_3_b at hd
      refine lv_iload hx hb dP_firstFitting_3 (lv_at hl 4 rfl) ?_
      refine lv_iconst (v := 4) hx hb dP_firstFitting_5 (by decide) ?_
      refine lv_icmp_ge (tgt := 37) hx hb dP_firstFitting_6 (by decide) (fun cq => ?_) (fun cq => ?_)
      · replace hd := ts_if_p cq hd
        refine lv_iconst (v := (-1)) hx hb dP_firstFitting_37 (by decide) ?_
        exact ts_iret hx hb hr hlk (vp_nar_int _) hw hd dP_firstFitting_38
      · replace hd := ts_if_n cq hd
        refine lv_iload hx hb dP_firstFitting_9 (lv_at hl 4 rfl) ?_
        refine lv_iload_n hx hb dP_firstFitting_11 rfl (lv_at hl 3 rfl) ?_
        refine lv_icmp_eq (tgt := 31) hx hb dP_firstFitting_12 (by decide) (fun cq => ?_) (fun cq => ?_)
        · replace hd := ts_if_p cq hd
          refine lv_iinc (v := (x4 + 1)) (lv' := [(4, .int (x4 + 1)), (0, .ref (ad 1)), (1, .ref (ad 10)), (2, .int x2), (3, .int x3)]) hx hb dP_firstFitting_31 hl (k := 4) rfl rfl (by decide) rfl (fun ls hl => ?_)
          refine lv_goto (tgt := 3) hx hb dP_firstFitting_34 (by decide) ?_
          exact ih3 u x2 x3 (x4 + 1) _ _ _ hd hw (lv_sub hl [1, 2, 3, 4, 0] rfl)
        · replace hd := ts_if_n cq hd
          refine lv_aload_n hx hb dP_firstFitting_15 rfl (lv_at hl 1 rfl) ?_
          refine lv_iload hx hb dP_firstFitting_16 (lv_at hl 4 rfl) ?_
          obtain ⟨h, hd⟩ := ts_ix_s hd
          refine tt_l10 hc hw h dP_firstFitting_18 ?_
          refine lv_iload_n hx hb dP_firstFitting_19 rfl (lv_at hl 2 rfl) ?_
          refine lv_iadd hx hb dP_firstFitting_20 ?_
          refine lv_aload_n hx hb dP_firstFitting_21 rfl (lv_at hl 0 rfl) ?_
          refine gP_28 hc hn hw dP_firstFitting_22 ?_
          refine lv_icmp_gt (tgt := 31) hx hb dP_firstFitting_25 (by decide) (fun cq => ?_) (fun cq => ?_)
          · replace hd := ts_if_p cq hd
            refine lv_iinc (v := (x4 + 1)) (lv' := [(4, .int (x4 + 1)), (0, .ref (ad 1)), (1, .ref (ad 10)), (2, .int x2), (3, .int x3)]) hx hb dP_firstFitting_31 hl (k := 4) rfl rfl (by decide) rfl (fun ls hl => ?_)
            refine lv_goto (tgt := 3) hx hb dP_firstFitting_34 (by decide) ?_
            exact ih3 u x2 x3 (x4 + 1) _ _ _ hd hw (lv_sub hl [1, 2, 3, 4, 0] rfl)
          · replace hd := ts_if_n cq hd
            refine lv_iload hx hb dP_firstFitting_28 (lv_at hl 4 rfl) ?_
            exact ts_iret hx hb hr hlk (vp_nar_int _) hw hd dP_firstFitting_30
  unfold dp_firstFitting_10 at hd
  refine lv_iconst (v := 0) hx hb dP_firstFitting_0 (by decide) ?_
  refine lv_istore (lv' := [(4, .int 0), (0, .ref (ad 1)), (1, .ref (ad 10)), (2, .int x2), (3, .int x3)]) hx hb dP_firstFitting_1 hl (by decide) rfl (fun ls hl => ?_)
  exact L3 40 u x2 x3 0 _ _ _ hd hw (lv_sub hl [1, 2, 3, 4, 0] rfl)
section
variable {p : Program} {l : Launch} {e : Env} {R : Room} {s : State} {m : MethodId} {args : Array Value} {below : List Frame} {meth : Method} {c : Code} {H : Heap} {locs : List Loc} {Q : State → Prop} {cc : ByteArray} {pc nL : Nat} {ls : Array Slot} {rest : List Value} {D : va_G} {ca : Nat → ClassId} {ad : Nat → Nat} {A : Nat → Prop} {u : ts_S} {cells slots : Nat}
theorem cP_45_10 (hc : CallFix p m c cc nL s args uW RP) (hn : nx s) (hw : ts_W tF D ca ad A s H locs u) {x2 x3 : Int32} {r0 : Int32} {u0 : ts_S} (hq : dp_firstFitting_10 u x2 x3 = some (r0, u0)) (hsz : ls.size = nL) (hR : rP_firstFitting_10.frames + 1 ≤ R.frames ∧ 8 + (5 + 11) + rP_firstFitting_10.locals ≤ R.locals) (hrest : (rest.map fun v => v.category).sum ≤ 8) (hdg : decode cc pc = .ok (.invokevirtual 45, 3)) (kk : ∀ (H1 : Heap) (locs1 : List Loc), ts_W tF D ca ad A s H1 locs1 u0 → W p l e R s m args below meth c H1 locs1 0 0 Q (F0 m (pc + 3) ls (.int r0 :: rest))) : W p l e R s m args below meth c H locs 0 0 Q (F0 m pc ls (.int x3 :: .int x2 :: .ref (ad 10) :: .ref (ad 1) :: rest)) :=
  ts_callVi (b := ad 1) (As := [.ref (ad 10), .int x2, .int x3]) hc hn hw (cp_firstFitting_10 l hq) rfl (cwV 3 hc.2.2.2.2 (gd_V (by decide +kernel) (by decide +kernel) (by decide +kernel) (by decide +kernel) (code_P_firstFitting)) rfl rfl rfl (by decide +kernel) hR) (va_recv hw.2.2.2.1 hw.1 (ci := 0) (q0 := 1) rfl rfl) rfl hsz hrest hdg kk
end
def rP_cartridgeFor : Room := { frames := 1, cells := 0, slots := 0, locals := 24 }
set_option maxHeartbeats 4000000 in
set_option maxRecDepth 100000 in
theorem cp_cartridgeFor (l : Launch) {u : ts_S} {x1 x2 : Int32} {r0 : Int32} {u0 : ts_S} (hd : dp_cartridgeFor u x1 x2 = some (r0, u0)) : ts_Ci tF l yP_cartridgeFor (.code yP_cartridgeFor bP_cartridgeFor 3 (some .int) :: uW) rP_cartridgeFor (fun ad => [.ref (ad 1), .int x1, .int x2]) u r0 u0 := by
  refine ts_in_i tF l (by decide) (fun p e s m args below meth c D ca ad A hc hn hr hlk hw => ?_)
  have hx := hc.1
  have hb := hc.2.1
  have hl := lv_entry ([.ref (ad 1), .int x1, .int x2]) (n := 3) (Nat.le_of_ble_eq_true rfl)
  rw [lg_entry_eq]
  generalize (lg_sl ([.ref (ad 1), .int x1, .int x2]) ++ List.replicate (3 - (lg_sl ([.ref (ad 1), .int x1, .int x2])).length) Slot.unset).toArray = ls at hl ⊢
  replace hl : lv_has ls 3 [(0, .ref (ad 1)), (1, .int x1), (2, .int x2)] := hl
  unfold dp_cartridgeFor at hd
  refine lv_aload_n hx hb dP_cartridgeFor_0 rfl (lv_at hl 0 rfl) ?_
  refine gP_18 hc hn hw dP_cartridgeFor_1 ?_
  refine lv_iconst (v := (-1)) hx hb dP_cartridgeFor_4 (by decide) ?_
  refine lv_icmp_eq (tgt := 39) hx hb dP_cartridgeFor_5 (by decide) (fun cq => ?_) (fun cq => ?_)
  · replace hd := ts_if_p cq hd
    refine lv_aload_n hx hb dP_cartridgeFor_39 rfl (lv_at hl 0 rfl) ?_
    refine lv_aload_n hx hb dP_cartridgeFor_40 rfl (lv_at hl 0 rfl) ?_
    refine gP_9 hc hn hw dP_cartridgeFor_41 ?_
    refine lv_iload_n hx hb dP_cartridgeFor_44 rfl (lv_at hl 1 rfl) ?_
    refine lv_iload_n hx hb dP_cartridgeFor_45 rfl (lv_at hl 2 rfl) ?_
    obtain ⟨r46, u46, hq, hd⟩ := ts_b_s hd
    refine cP_45_10 hc hn hw hq hl.1 ⟨Nat.le_of_ble_eq_true rfl, Nat.le_of_ble_eq_true rfl⟩ (Nat.le_of_ble_eq_true rfl) dP_cartridgeFor_46 (fun H locs hw => ?_)
    exact ts_iret hx hb hr hlk (vp_nar_int _) hw hd dP_cartridgeFor_49
  · replace hd := ts_if_n cq hd
    refine lv_aload_n hx hb dP_cartridgeFor_8 rfl (lv_at hl 0 rfl) ?_
    refine gP_18 hc hn hw dP_cartridgeFor_9 ?_
    refine lv_iload_n hx hb dP_cartridgeFor_12 rfl (lv_at hl 2 rfl) ?_
    refine lv_icmp_eq (tgt := 39) hx hb dP_cartridgeFor_13 (by decide) (fun cq => ?_) (fun cq => ?_)
    · replace hd := ts_if_p cq hd
      refine lv_aload_n hx hb dP_cartridgeFor_39 rfl (lv_at hl 0 rfl) ?_
      refine lv_aload_n hx hb dP_cartridgeFor_40 rfl (lv_at hl 0 rfl) ?_
      refine gP_9 hc hn hw dP_cartridgeFor_41 ?_
      refine lv_iload_n hx hb dP_cartridgeFor_44 rfl (lv_at hl 1 rfl) ?_
      refine lv_iload_n hx hb dP_cartridgeFor_45 rfl (lv_at hl 2 rfl) ?_
      obtain ⟨r46, u46, hq, hd⟩ := ts_b_s hd
      refine cP_45_10 hc hn hw hq hl.1 ⟨Nat.le_of_ble_eq_true rfl, Nat.le_of_ble_eq_true rfl⟩ (Nat.le_of_ble_eq_true rfl) dP_cartridgeFor_46 (fun H locs hw => ?_)
      exact ts_iret hx hb hr hlk (vp_nar_int _) hw hd dP_cartridgeFor_49
    · replace hd := ts_if_n cq hd
      refine lv_aload_n hx hb dP_cartridgeFor_16 rfl (lv_at hl 0 rfl) ?_
      refine gP_9 hc hn hw dP_cartridgeFor_17 ?_
      refine lv_aload_n hx hb dP_cartridgeFor_20 rfl (lv_at hl 0 rfl) ?_
      refine gP_18 hc hn hw dP_cartridgeFor_21 ?_
      obtain ⟨h, hd⟩ := ts_ix_s hd
      refine tt_l10 hc hw h dP_cartridgeFor_24 ?_
      refine lv_iload_n hx hb dP_cartridgeFor_25 rfl (lv_at hl 1 rfl) ?_
      refine lv_iadd hx hb dP_cartridgeFor_26 ?_
      refine lv_aload_n hx hb dP_cartridgeFor_27 rfl (lv_at hl 0 rfl) ?_
      refine gP_28 hc hn hw dP_cartridgeFor_28 ?_
      refine lv_icmp_gt (tgt := 39) hx hb dP_cartridgeFor_31 (by decide) (fun cq => ?_) (fun cq => ?_)
      · replace hd := ts_if_p cq hd
        refine lv_aload_n hx hb dP_cartridgeFor_39 rfl (lv_at hl 0 rfl) ?_
        refine lv_aload_n hx hb dP_cartridgeFor_40 rfl (lv_at hl 0 rfl) ?_
        refine gP_9 hc hn hw dP_cartridgeFor_41 ?_
        refine lv_iload_n hx hb dP_cartridgeFor_44 rfl (lv_at hl 1 rfl) ?_
        refine lv_iload_n hx hb dP_cartridgeFor_45 rfl (lv_at hl 2 rfl) ?_
        obtain ⟨r46, u46, hq, hd⟩ := ts_b_s hd
        refine cP_45_10 hc hn hw hq hl.1 ⟨Nat.le_of_ble_eq_true rfl, Nat.le_of_ble_eq_true rfl⟩ (Nat.le_of_ble_eq_true rfl) dP_cartridgeFor_46 (fun H locs hw => ?_)
        exact ts_iret hx hb hr hlk (vp_nar_int _) hw hd dP_cartridgeFor_49
      · replace hd := ts_if_n cq hd
        refine lv_aload_n hx hb dP_cartridgeFor_34 rfl (lv_at hl 0 rfl) ?_
        refine gP_18 hc hn hw dP_cartridgeFor_35 ?_
        exact ts_iret hx hb hr hlk (vp_nar_int _) hw hd dP_cartridgeFor_38
section
variable {p : Program} {l : Launch} {e : Env} {R : Room} {s : State} {m : MethodId} {args : Array Value} {below : List Frame} {meth : Method} {c : Code} {H : Heap} {locs : List Loc} {Q : State → Prop} {cc : ByteArray} {pc nL : Nat} {ls : Array Slot} {rest : List Value} {D : va_G} {ca : Nat → ClassId} {ad : Nat → Nat} {A : Nat → Prop} {u : ts_S} {cells slots : Nat}
theorem cT_95 (hc : CallFix p m c cc nL s args uW RT) (hn : nx s) (hw : ts_W tF D ca ad A s H locs u) {x1 x2 : Int32} {r0 : Int32} {u0 : ts_S} (hq : dp_cartridgeFor u x1 x2 = some (r0, u0)) (hsz : ls.size = nL) (hR : rP_cartridgeFor.frames + 1 ≤ R.frames ∧ 8 + (3 + 11) + rP_cartridgeFor.locals ≤ R.locals) (hrest : (rest.map fun v => v.category).sum ≤ 8) (hdg : decode cc pc = .ok (.invokevirtual 95, 3)) (kk : ∀ (H1 : Heap) (locs1 : List Loc), ts_W tF D ca ad A s H1 locs1 u0 → W p l e R s m args below meth c H1 locs1 0 0 Q (F0 m (pc + 3) ls (.int r0 :: rest))) : W p l e R s m args below meth c H locs 0 0 Q (F0 m pc ls (.int x2 :: .int x1 :: .ref (ad 1) :: rest)) :=
  ts_callNi (b := ad 1) (As := [.int x1, .int x2]) hc hn hw (cp_cartridgeFor l hq) rfl ⟨va_cnB 2 hc.2.2.2.2 (gd_N (code_P_cartridgeFor)) rfl rfl rfl (hn (.methodLinkNest RT 95 yP_cartridgeFor "TierStore") (by decide +kernel)) (hc.2.2.2.2 (.initialized RP) (by decide +kernel)) (by decide +kernel) hR, hc.2.2.2.2 (.instanceMethod yP_cartridgeFor) (by decide +kernel), hc.2.2.2.2 (.selects RP yP_cartridgeFor yP_cartridgeFor) (by decide +kernel)⟩ (va_recv hw.2.2.2.1 hw.1 (ci := 0) (q0 := 1) rfl rfl) rfl hsz hrest hdg kk
end
def rP_append : Room := { frames := 3, cells := 0, slots := 0, locals := 66 }
set_option maxHeartbeats 4000000 in
set_option maxRecDepth 100000 in
theorem cp_append (l : Launch) {u : ts_S} {x1 x2 : Int32} {r0 : Int32} {u0 : ts_S} (hd : dp_append u x1 x2 = some (r0, u0)) : ts_Ci tF l yP_append (.code yP_append bP_append 4 (some .int) :: uW) rP_append (fun ad => [.ref (ad 1), .int x1, .int x2]) u r0 u0 := by
  refine ts_in_i tF l (by decide) (fun p e s m args below meth c D ca ad A hc hn hr hlk hw => ?_)
  have hx := hc.1
  have hb := hc.2.1
  have hl := lv_entry ([.ref (ad 1), .int x1, .int x2]) (n := 4) (Nat.le_of_ble_eq_true rfl)
  rw [lg_entry_eq]
  generalize (lg_sl ([.ref (ad 1), .int x1, .int x2]) ++ List.replicate (4 - (lg_sl ([.ref (ad 1), .int x1, .int x2])).length) Slot.unset).toArray = ls at hl ⊢
  replace hl : lv_has ls 4 [(0, .ref (ad 1)), (1, .int x1), (2, .int x2)] := hl
  unfold dp_append at hd
  refine lv_aload_n hx hb dP_append_0 rfl (lv_at hl 0 rfl) ?_
  refine gP_9 hc hn hw dP_append_1 ?_
  refine lv_iload_n hx hb dP_append_4 rfl (lv_at hl 1 rfl) ?_
  obtain ⟨h, hd⟩ := ts_ix_s hd
  refine tt_l10 hc hw h dP_append_5 ?_
  refine lv_istore_n (lv' := [(3, .int (u.2 10 x1.toNatClampNeg)), (0, .ref (ad 1)), (1, .int x1), (2, .int x2)]) hx hb dP_append_6 rfl hl (by decide) rfl (fun ls hl => ?_)
  refine lv_aload_n hx hb dP_append_7 rfl (lv_at hl 1 rfl) ?_
  refine lv_iload_n hx hb dP_append_8 rfl (lv_at hl 2 rfl) ?_
  refine lv_iload_n hx hb dP_append_9 rfl (lv_at hl 0 rfl) ?_
  refine lv_iload_n hx hb dP_append_10 rfl (lv_at hl 3 rfl) ?_
  obtain ⟨r11, u11, hq, hd⟩ := ts_b_s hd
  refine cP_41 hc hn hw hq hl.1 ⟨Nat.le_of_ble_eq_true rfl, Nat.le_of_ble_eq_true rfl⟩ (Nat.le_of_ble_eq_true rfl) dP_append_11 (fun H locs hw => ?_)
  refine lv_aload_n hx hb dP_append_14 rfl (lv_at hl 1 rfl) ?_
  refine gP_9 hc hn hw dP_append_15 ?_
  refine lv_iload_n hx hb dP_append_18 rfl (lv_at hl 2 rfl) ?_
  refine lv_dup2_11 hx hb dP_append_19 rfl rfl ?_
  obtain ⟨h, hd⟩ := ts_ix_s hd
  refine tt_l10 hc hw h dP_append_20 ?_
  refine lv_iload_n hx hb dP_append_21 rfl (lv_at hl 3 rfl) ?_
  refine lv_iadd hx hb dP_append_22 ?_
  obtain ⟨h, hd⟩ := ts_ix_s hd
  refine tt_s10 hc hw h dP_append_23 (fun H locs hw => ?_)
  refine lv_iload_n hx hb dP_append_24 rfl (lv_at hl 0 rfl) ?_
  exact ts_iret hx hb hr hlk (vp_nar_int _) hw hd dP_append_25
section
variable {p : Program} {l : Launch} {e : Env} {R : Room} {s : State} {m : MethodId} {args : Array Value} {below : List Frame} {meth : Method} {c : Code} {H : Heap} {locs : List Loc} {Q : State → Prop} {cc : ByteArray} {pc nL : Nat} {ls : Array Slot} {rest : List Value} {D : va_G} {ca : Nat → ClassId} {ad : Nat → Nat} {A : Nat → Prop} {u : ts_S} {cells slots : Nat}
theorem cT_168 (hc : CallFix p m c cc nL s args uW RT) (hn : nx s) (hw : ts_W tF D ca ad A s H locs u) {x1 x2 : Int32} {r0 : Int32} {u0 : ts_S} (hq : dp_append u x1 x2 = some (r0, u0)) (hsz : ls.size = nL) (hR : rP_append.frames + 1 ≤ R.frames ∧ 8 + (4 + 11) + rP_append.locals ≤ R.locals) (hrest : (rest.map fun v => v.category).sum ≤ 8) (hdg : decode cc pc = .ok (.invokevirtual 168, 3)) (kk : ∀ (H1 : Heap) (locs1 : List Loc), ts_W tF D ca ad A s H1 locs1 u0 → W p l e R s m args below meth c H1 locs1 0 0 Q (F0 m (pc + 3) ls (.int r0 :: rest))) : W p l e R s m args below meth c H locs 0 0 Q (F0 m pc ls (.int x2 :: .int x1 :: .ref (ad 1) :: rest)) :=
  ts_callNi (b := ad 1) (As := [.int x1, .int x2]) hc hn hw (cp_append l hq) rfl ⟨va_cnB 2 hc.2.2.2.2 (gd_N (code_P_append)) rfl rfl rfl (hn (.methodLinkNest RT 168 yP_append "TierStore") (by decide +kernel)) (hc.2.2.2.2 (.initialized RP) (by decide +kernel)) (by decide +kernel) hR, hc.2.2.2.2 (.instanceMethod yP_append) (by decide +kernel), hc.2.2.2.2 (.selects RP yP_append yP_append) (by decide +kernel)⟩ (va_recv hw.2.2.2.1 hw.1 (ci := 0) (q0 := 1) rfl rfl) rfl hsz hrest hdg kk
end
def rT_putCopy : Room := { frames := 4, cells := 0, slots := 0, locals := 89 }
set_option maxHeartbeats 4000000 in
set_option maxRecDepth 100000 in
theorem ct_putCopy (l : Launch) {u : ts_S} {x1 x2 : Int32} {r0 : Int32} {u0 : ts_S} (hd : dt_putCopy u x1 x2 = some (r0, u0)) : ts_Cv tF l yT_putCopy (.code yT_putCopy bT_putCopy 3 none :: uW) rT_putCopy (fun ad => [.ref (ad 0), .int x1, .int x2]) u u0 := by
  refine ts_in_v tF l (by decide) (fun p e s m args below meth c D ca ad A hc hn hr hlk hw => ?_)
  have hx := hc.1
  have hb := hc.2.1
  have hl := lv_entry ([.ref (ad 0), .int x1, .int x2]) (n := 3) (Nat.le_of_ble_eq_true rfl)
  rw [lg_entry_eq]
  generalize (lg_sl ([.ref (ad 0), .int x1, .int x2]) ++ List.replicate (3 - (lg_sl ([.ref (ad 0), .int x1, .int x2])).length) Slot.unset).toArray = ls at hl ⊢
  replace hl : lv_has ls 3 [(0, .ref (ad 0)), (1, .int x1), (2, .int x2)] := hl
  unfold dt_putCopy at hd
  refine lv_aload_n hx hb dT_putCopy_0 rfl (lv_at hl 0 rfl) ?_
  refine gT_21 hc hn hw dT_putCopy_1 ?_
  refine lv_iload_n hx hb dT_putCopy_4 rfl (lv_at hl 1 rfl) ?_
  refine lv_iload_n hx hb dT_putCopy_5 rfl (lv_at hl 2 rfl) ?_
  obtain ⟨h, hd⟩ := ts_ix_s hd
  refine tt_s5 hc hw h dT_putCopy_6 (fun H locs hw => ?_)
  refine lv_aload_n hx hb dT_putCopy_7 rfl (lv_at hl 0 rfl) ?_
  refine gT_24 hc hn hw dT_putCopy_8 ?_
  refine lv_iload_n hx hb dT_putCopy_11 rfl (lv_at hl 1 rfl) ?_
  refine lv_aload_n hx hb dT_putCopy_12 rfl (lv_at hl 0 rfl) ?_
  refine gT_61 hc hn hw dT_putCopy_13 ?_
  refine lv_iload_n hx hb dT_putCopy_16 rfl (lv_at hl 2 rfl) ?_
  refine lv_aload_n hx hb dT_putCopy_17 rfl (lv_at hl 0 rfl) ?_
  refine gT_13 hc hn hw dT_putCopy_18 ?_
  refine lv_iload_n hx hb dT_putCopy_21 rfl (lv_at hl 1 rfl) ?_
  obtain ⟨h, hd⟩ := ts_ix_s hd
  refine tt_l3 hc hw h dT_putCopy_22 ?_
  obtain ⟨r23, u23, hq, hd⟩ := ts_b_s hd
  refine cT_168 hc hn hw hq hl.1 ⟨Nat.le_of_ble_eq_true rfl, Nat.le_of_ble_eq_true rfl⟩ (Nat.le_of_ble_eq_true rfl) dT_putCopy_23 (fun H locs hw => ?_)
  obtain ⟨h, hd⟩ := ts_ix_s hd
  refine tt_s6 hc hw h dT_putCopy_26 (fun H locs hw => ?_)
  exact ts_vret hx hb hr hlk hw hd dT_putCopy_27
section
variable {p : Program} {l : Launch} {e : Env} {R : Room} {s : State} {m : MethodId} {args : Array Value} {below : List Frame} {meth : Method} {c : Code} {H : Heap} {locs : List Loc} {Q : State → Prop} {cc : ByteArray} {pc nL : Nat} {ls : Array Slot} {rest : List Value} {D : va_G} {ca : Nat → ClassId} {ad : Nat → Nat} {A : Nat → Prop} {u : ts_S} {cells slots : Nat}
theorem cT_98 (hc : CallFix p m c cc nL s args uW RT) (hn : nx s) (hw : ts_W tF D ca ad A s H locs u) {x1 x2 : Int32} {r0 : Int32} {u0 : ts_S} (hq : dt_putCopy u x1 x2 = some (r0, u0)) (hsz : ls.size = nL) (hR : rT_putCopy.frames + 1 ≤ R.frames ∧ 8 + (3 + 11) + rT_putCopy.locals ≤ R.locals) (hrest : (rest.map fun v => v.category).sum ≤ 8) (hdg : decode cc pc = .ok (.invokevirtual 98, 3)) (kk : ∀ (H1 : Heap) (locs1 : List Loc), ts_W tF D ca ad A s H1 locs1 u0 → W p l e R s m args below meth c H1 locs1 0 0 Q (F0 m (pc + 3) ls rest)) : W p l e R s m args below meth c H locs 0 0 Q (F0 m pc ls (.int x2 :: .int x1 :: .ref (ad 0) :: rest)) :=
  ts_callVv (b := ad 0) (As := [.int x1, .int x2]) hc hn hw (ct_putCopy l hq) rfl (cwV 2 hc.2.2.2.2 (gd_V (by decide +kernel) (by decide +kernel) (by decide +kernel) (by decide +kernel) (code_T_putCopy)) rfl rfl rfl (by decide +kernel) hR) (va_recv hw.2.2.2.1 hw.1 (ci := 1) (q0 := 0) rfl rfl) rfl hsz hrest hdg kk
end
def rT_backUp : Room := { frames := 5, cells := 0, slots := 0, locals := 111 }
set_option maxHeartbeats 4000000 in
set_option maxRecDepth 100000 in
theorem ct_backUp (l : Launch) {u : ts_S} {r0 : Int32} {u0 : ts_S} (hd : dt_backUp u = some (r0, u0)) : ts_Ci tF l yT_backUp (.code yT_backUp bT_backUp 3 (some .int) :: uW) rT_backUp (fun ad => [.ref (ad 0)]) u r0 u0 := by
  refine ts_in_i tF l (by decide) (fun p e s m args below meth c D ca ad A hc hn hr hlk hw => ?_)
  have hx := hc.1
  have hb := hc.2.1
  have hl := lv_entry ([.ref (ad 0)]) (n := 3) (Nat.le_of_ble_eq_true rfl)
  rw [lg_entry_eq]
  generalize (lg_sl ([.ref (ad 0)]) ++ List.replicate (3 - (lg_sl ([.ref (ad 0)])).length) Slot.unset).toArray = ls at hl ⊢
  replace hl : lv_has ls 3 [(0, .ref (ad 0))] := hl
  unfold dt_backUp at hd
  refine lv_aload_n hx hb dT_backUp_0 rfl (lv_at hl 0 rfl) ?_
  refine lv_iconst (v := 1) hx hb dT_backUp_1 (by decide) ?_
  obtain ⟨r2, u2, hq, hd⟩ := ts_b_s hd
  refine cT_91 hc hn hw hq hl.1 ⟨Nat.le_of_ble_eq_true rfl, Nat.le_of_ble_eq_true rfl⟩ (Nat.le_of_ble_eq_true rfl) dT_backUp_2 (fun H locs hw => ?_)
  refine lv_istore_n (lv' := [(1, .int r2), (0, .ref (ad 0))]) hx hb dT_backUp_5 rfl hl (by decide) rfl (fun ls hl => ?_)
  refine lv_iload_n hx hb dT_backUp_6 rfl (lv_at hl 0 rfl) ?_
  refine lv_iconst (v := (-1)) hx hb dT_backUp_7 (by decide) ?_
  refine lv_icmp_ne (tgt := 13) hx hb dT_backUp_8 (by decide) (fun cq => ?_) (fun cq => ?_)
  · replace hd := ts_if_n cq hd
    refine lv_aload_n hx hb dT_backUp_13 rfl (lv_at hl 1 rfl) ?_
    refine gT_61 hc hn hw dT_backUp_14 ?_
    refine lv_aload_n hx hb dT_backUp_17 rfl (lv_at hl 1 rfl) ?_
    refine gT_13 hc hn hw dT_backUp_18 ?_
    refine lv_iload_n hx hb dT_backUp_21 rfl (lv_at hl 0 rfl) ?_
    obtain ⟨h, hd⟩ := ts_ix_s hd
    refine tt_l3 hc hw h dT_backUp_22 ?_
    refine lv_iconst (v := (-1)) hx hb dT_backUp_23 (by decide) ?_
    obtain ⟨r24, u24, hq, hd⟩ := ts_b_s hd
    refine cT_95 hc hn hw hq hl.1 ⟨Nat.le_of_ble_eq_true rfl, Nat.le_of_ble_eq_true rfl⟩ (Nat.le_of_ble_eq_true rfl) dT_backUp_24 (fun H locs hw => ?_)
    refine lv_istore_n (lv' := [(2, .int r24), (1, .int r2), (0, .ref (ad 0))]) hx hb dT_backUp_27 rfl hl (by decide) rfl (fun ls hl => ?_)
    refine lv_iload_n hx hb dT_backUp_28 rfl (lv_at hl 0 rfl) ?_
    refine lv_iconst (v := (-1)) hx hb dT_backUp_29 (by decide) ?_
    refine lv_icmp_ne (tgt := 36) hx hb dT_backUp_30 (by decide) (fun cq => ?_) (fun cq => ?_)
    · replace hd := ts_if_n cq hd
      refine lv_aload_n hx hb dT_backUp_36 rfl (lv_at hl 2 rfl) ?_
      refine lv_iload_n hx hb dT_backUp_37 rfl (lv_at hl 1 rfl) ?_
      refine lv_iload_n hx hb dT_backUp_38 rfl (lv_at hl 0 rfl) ?_
      obtain ⟨r39, u39, hq, hd⟩ := ts_b_s hd
      refine cT_98 hc hn hw hq hl.1 ⟨Nat.le_of_ble_eq_true rfl, Nat.le_of_ble_eq_true rfl⟩ (Nat.le_of_ble_eq_true rfl) dT_backUp_39 (fun H locs hw => ?_)
      refine lv_aload_n hx hb dT_backUp_42 rfl (lv_at hl 2 rfl) ?_
      refine gT_9 hc hn hw dT_backUp_43 ?_
      refine lv_iload_n hx hb dT_backUp_46 rfl (lv_at hl 1 rfl) ?_
      refine lv_iconst (v := 2) hx hb dT_backUp_47 (by decide) ?_
      obtain ⟨h, hd⟩ := ts_ix_s hd
      refine tt_s2 hc hw h dT_backUp_48 (fun H locs hw => ?_)
      refine lv_iload_n hx hb dT_backUp_49 rfl (lv_at hl 1 rfl) ?_
      exact ts_iret hx hb hr hlk (vp_nar_int _) hw hd dT_backUp_50
    · replace hd := ts_if_p cq hd
      refine lv_bipush (v := (-2)) hx hb dT_backUp_33 (by decide) ?_
      exact ts_iret hx hb hr hlk (vp_nar_int _) hw hd dT_backUp_35
  · replace hd := ts_if_p cq hd
    refine lv_iconst (v := (-1)) hx hb dT_backUp_11 (by decide) ?_
    exact ts_iret hx hb hr hlk (vp_nar_int _) hw hd dT_backUp_12
def rT_isUnits : Room := { frames := 0, cells := 0, slots := 0, locals := 0 }
set_option maxHeartbeats 4000000 in
set_option maxRecDepth 100000 in
theorem ct_isUnits (l : Launch) {u : ts_S} {x0 : Int32} {r0 : Int32} {u0 : ts_S} (hd : dt_isUnits u x0 = some (r0, u0)) : ts_Ci tF l yT_isUnits (.code yT_isUnits bT_isUnits 1 (some .boolean) :: uW) rT_isUnits (fun ad => [.int x0]) u r0 u0 := by
  refine ts_in_i tF l (by decide) (fun p e s m args below meth c D ca ad A hc hn hr hlk hw => ?_)
  have hx := hc.1
  have hb := hc.2.1
  have hl := lv_entry ([.int x0]) (n := 1) (Nat.le_of_ble_eq_true rfl)
  rw [lg_entry_eq]
  generalize (lg_sl ([.int x0]) ++ List.replicate (1 - (lg_sl ([.int x0])).length) Slot.unset).toArray = ls at hl ⊢
  replace hl : lv_has ls 1 [(0, .int x0)] := hl
  unfold dt_isUnits at hd
  refine lv_iload_n hx hb dT_isUnits_0 rfl (lv_at hl 0 rfl) ?_
  refine lv_if_lt (tgt := 14) hx hb dT_isUnits_1 (by decide) (fun cq => ?_) (fun cq => ?_)
  · replace hd := ts_if_p cq hd
    refine lv_iconst (v := 0) hx hb dT_isUnits_14 (by decide) ?_
    exact ts_iret hx hb hr hlk (by decide +kernel) hw hd dT_isUnits_15
  · replace hd := ts_if_n cq hd
    refine lv_iload_n hx hb dT_isUnits_4 rfl (lv_at hl 0 rfl) ?_
    refine lv_bipush (v := 24) hx hb dT_isUnits_5 (by decide) ?_
    refine lv_icmp_gt (tgt := 14) hx hb dT_isUnits_7 (by decide) (fun cq => ?_) (fun cq => ?_)
    · replace hd := ts_if_p cq hd
      refine lv_iconst (v := 0) hx hb dT_isUnits_14 (by decide) ?_
      exact ts_iret hx hb hr hlk (by decide +kernel) hw hd dT_isUnits_15
    · replace hd := ts_if_n cq hd
      refine lv_iconst (v := 1) hx hb dT_isUnits_10 (by decide) ?_
      refine lv_goto (tgt := 15) hx hb dT_isUnits_11 (by decide) ?_
      exact ts_iret hx hb hr hlk (by decide +kernel) hw hd dT_isUnits_15
section
variable {p : Program} {l : Launch} {e : Env} {R : Room} {s : State} {m : MethodId} {args : Array Value} {below : List Frame} {meth : Method} {c : Code} {H : Heap} {locs : List Loc} {Q : State → Prop} {cc : ByteArray} {pc nL : Nat} {ls : Array Slot} {rest : List Value} {D : va_G} {ca : Nat → ClassId} {ad : Nat → Nat} {A : Nat → Prop} {u : ts_S} {cells slots : Nat}
theorem cT_102 (hc : CallFix p m c cc nL s args uW RT) (hn : nx s) (hw : ts_W tF D ca ad A s H locs u) {x0 : Int32} {r0 : Int32} {u0 : ts_S} (hq : dt_isUnits u x0 = some (r0, u0)) (hsz : ls.size = nL) (hR : rT_isUnits.frames + 1 ≤ R.frames ∧ 8 + (1 + 11) + rT_isUnits.locals ≤ R.locals) (hrest : (rest.map fun v => v.category).sum ≤ 8) (hdg : decode cc pc = .ok (.invokestatic 102, 3)) (kk : ∀ (H1 : Heap) (locs1 : List Loc), ts_W tF D ca ad A s H1 locs1 u0 → W p l e R s m args below meth c H1 locs1 0 0 Q (F0 m (pc + 3) ls (.int r0 :: rest))) : W p l e R s m args below meth c H locs 0 0 Q (F0 m pc ls (.int x0 :: rest)) :=
  ts_callSi (As := [.int x0]) hc hn hw (ct_isUnits l hq) rfl (cwS 1 hc.2.2.2.2 (gd_S (by decide +kernel) (by decide +kernel) (by decide +kernel) (code_T_isUnits)) rfl rfl rfl (by decide +kernel) hR) rfl hsz hrest hdg kk
end
def rT_tidy : Room := { frames := 2, cells := 0, slots := 0, locals := 44 }
set_option maxHeartbeats 4000000 in
set_option maxRecDepth 100000 in
theorem ct_tidy (l : Launch) {u : ts_S} {x1 x2 : Int32} {r0 : Int32} {u0 : ts_S} (hd : dt_tidy u x1 x2 = some (r0, u0)) : ts_Ci tF l yT_tidy (.code yT_tidy bT_tidy 4 (some .int) :: uW) rT_tidy (fun ad => [.ref (ad 0), .int x1, .int x2]) u r0 u0 := by
  refine ts_in_i tF l (by decide) (fun p e s m args below meth c D ca ad A hc hn hr hlk hw => ?_)
  have hx := hc.1
  have hb := hc.2.1
  have hl := lv_entry ([.ref (ad 0), .int x1, .int x2]) (n := 4) (Nat.le_of_ble_eq_true rfl)
  rw [lg_entry_eq]
  generalize (lg_sl ([.ref (ad 0), .int x1, .int x2]) ++ List.replicate (4 - (lg_sl ([.ref (ad 0), .int x1, .int x2])).length) Slot.unset).toArray = ls at hl ⊢
  replace hl : lv_has ls 4 [(0, .ref (ad 0)), (1, .int x1), (2, .int x2)] := hl
  have L33 : ∀ (n : Nat) (u : ts_S) (x1 x2 x3 : Int32) (H : Heap) (locs : List Loc) (ls : Array Slot), dt_tidy_33 n u x1 x2 x3 = some (r0, u0) → ts_W tF D ca ad A s H locs u → lv_has ls 4 [(0, .ref (ad 0)), (1, .int x1), (2, .int x2), (3, .int x3)] → W p l e rT_tidy s m args below meth c H locs 0 0 (MQ below (va_Qi (fun r v => r = r0 ∧ v = u0) (ts_post tF D ca ad A) A) args s 0 0 A) (F0 m 33 ls []) := by
    intro n
    induction n with
    | zero => intro u x1 x2 x3 H locs ls hd; cases (show (none : Option (Int32 × ts_S)) = some (r0, u0) from hd)
    | succ n33 ih33 =>
      intro u x1 x2 x3 H locs ls hd hw hl
      replace hd : dt_tidy_33_b (dt_tidy_33 n33) u x1 x2 x3 = some (r0, u0) := hd
      unfold dt_tidy_33_b at hd
      refine lv_iload_n hx hb dT_tidy_33 rfl (lv_at hl 3 rfl) ?_
      refine lv_bipush (v := 16) hx hb dT_tidy_34 (by decide) ?_
      refine lv_icmp_ge (tgt := 60) hx hb dT_tidy_36 (by decide) (fun cq => ?_) (fun cq => ?_)
      · replace hd := ts_if_p cq hd
        refine lv_iload_n hx hb dT_tidy_60 rfl (lv_at hl 3 rfl) ?_
        exact ts_iret hx hb hr hlk (vp_nar_int _) hw hd dT_tidy_61
      · replace hd := ts_if_n cq hd
        refine lv_aload_n hx hb dT_tidy_39 rfl (lv_at hl 0 rfl) ?_
        obtain ⟨r40, u40, hq, hd⟩ := ts_b_s hd
        refine cT_105 hc hn hw hq hl.1 ⟨Nat.le_of_ble_eq_true rfl, Nat.le_of_ble_eq_true rfl⟩ (Nat.le_of_ble_eq_true rfl) dT_tidy_40 (fun H locs hw => ?_)
        refine lv_iload_n hx hb dT_tidy_43 rfl (lv_at hl 2 rfl) ?_
        refine lv_icmp_le (tgt := 60) hx hb dT_tidy_44 (by decide) (fun cq => ?_) (fun cq => ?_)
        · replace hd := ts_if_p cq hd
          refine lv_iload_n hx hb dT_tidy_60 rfl (lv_at hl 3 rfl) ?_
          exact ts_iret hx hb hr hlk (vp_nar_int _) hw hd dT_tidy_61
        · replace hd := ts_if_n cq hd
          refine lv_aload_n hx hb dT_tidy_47 rfl (lv_at hl 0 rfl) ?_
          obtain ⟨r48, u48, hq, hd⟩ := ts_b_s hd
          refine cT_109 hc hn hw hq hl.1 ⟨Nat.le_of_ble_eq_true rfl, Nat.le_of_ble_eq_true rfl⟩ (Nat.le_of_ble_eq_true rfl) dT_tidy_48 (fun H locs hw => ?_)
          refine lv_if_eq (tgt := 60) hx hb dT_tidy_51 (by decide) (fun cq => ?_) (fun cq => ?_)
          · replace hd := ts_if_p cq hd
            refine lv_iload_n hx hb dT_tidy_60 rfl (lv_at hl 3 rfl) ?_
            exact ts_iret hx hb hr hlk (vp_nar_int _) hw hd dT_tidy_61
          · replace hd := ts_if_n cq hd
            refine lv_iinc (v := (x3 + 1)) (lv' := [(3, .int (x3 + 1)), (0, .ref (ad 0)), (1, .int x1), (2, .int x2)]) hx hb dT_tidy_54 hl (k := 3) rfl rfl (by decide) rfl (fun ls hl => ?_)
            refine lv_goto (tgt := 33) hx hb dT_tidy_57 (by decide) ?_
            exact ih33 u48 x1 x2 (x3 + 1) _ _ _ hd hw (lv_sub hl [1, 2, 3, 0] rfl)
  unfold dt_tidy at hd
  refine lv_iload_n hx hb dT_tidy_0 rfl (lv_at hl 1 rfl) ?_
  obtain ⟨r1, u1, hq, hd⟩ := ts_b_s hd
  refine cT_102 hc hn hw hq hl.1 ⟨Nat.le_of_ble_eq_true rfl, Nat.le_of_ble_eq_true rfl⟩ (Nat.le_of_ble_eq_true rfl) dT_tidy_1 (fun H locs hw => ?_)
  refine lv_if_eq (tgt := 19) hx hb dT_tidy_4 (by decide) (fun cq => ?_) (fun cq => ?_)
  · replace hd := ts_if_p cq hd
    refine lv_iconst (v := (-1)) hx hb dT_tidy_19 (by decide) ?_
    exact ts_iret hx hb hr hlk (vp_nar_int _) hw hd dT_tidy_20
  · replace hd := ts_if_n cq hd
    refine lv_iload_n hx hb dT_tidy_7 rfl (lv_at hl 2 rfl) ?_
    obtain ⟨r8, u8, hq, hd⟩ := ts_b_s hd
    refine cT_102 hc hn hw hq hl.1 ⟨Nat.le_of_ble_eq_true rfl, Nat.le_of_ble_eq_true rfl⟩ (Nat.le_of_ble_eq_true rfl) dT_tidy_8 (fun H locs hw => ?_)
    refine lv_if_eq (tgt := 19) hx hb dT_tidy_11 (by decide) (fun cq => ?_) (fun cq => ?_)
    · replace hd := ts_if_p cq hd
      refine lv_iconst (v := (-1)) hx hb dT_tidy_19 (by decide) ?_
      exact ts_iret hx hb hr hlk (vp_nar_int _) hw hd dT_tidy_20
    · replace hd := ts_if_n cq hd
      refine lv_iload_n hx hb dT_tidy_14 rfl (lv_at hl 2 rfl) ?_
      refine lv_iload_n hx hb dT_tidy_15 rfl (lv_at hl 1 rfl) ?_
      refine lv_icmp_le (tgt := 21) hx hb dT_tidy_16 (by decide) (fun cq => ?_) (fun cq => ?_)
      · replace hd := ts_if_p cq hd
        refine lv_aload_n hx hb dT_tidy_21 rfl (lv_at hl 0 rfl) ?_
        obtain ⟨r22, u22, hq, hd⟩ := ts_b_s hd
        refine cT_105 hc hn hw hq hl.1 ⟨Nat.le_of_ble_eq_true rfl, Nat.le_of_ble_eq_true rfl⟩ (Nat.le_of_ble_eq_true rfl) dT_tidy_22 (fun H locs hw => ?_)
        refine lv_iload_n hx hb dT_tidy_25 rfl (lv_at hl 1 rfl) ?_
        refine lv_icmp_gt (tgt := 31) hx hb dT_tidy_26 (by decide) (fun cq => ?_) (fun cq => ?_)
        · replace hd := ts_if_p cq hd
          refine lv_iconst (v := 0) hx hb dT_tidy_31 (by decide) ?_
          refine lv_istore_n (lv' := [(3, .int 0), (0, .ref (ad 0)), (1, .int x1), (2, .int x2)]) hx hb dT_tidy_32 rfl hl (by decide) rfl (fun ls hl => ?_)
          exact L33 40 u22 x1 x2 0 _ _ _ hd hw (lv_sub hl [1, 2, 3, 0] rfl)
        · replace hd := ts_if_n cq hd
          refine lv_iconst (v := 0) hx hb dT_tidy_29 (by decide) ?_
          exact ts_iret hx hb hr hlk (vp_nar_int _) hw hd dT_tidy_30
      · replace hd := ts_if_n cq hd
        refine lv_iconst (v := (-1)) hx hb dT_tidy_19 (by decide) ?_
        exact ts_iret hx hb hr hlk (vp_nar_int _) hw hd dT_tidy_20
def rT_filesWaiting : Room := { frames := 0, cells := 0, slots := 0, locals := 0 }
set_option maxHeartbeats 4000000 in
set_option maxRecDepth 100000 in
theorem ct_filesWaiting (l : Launch) {u : ts_S} {r0 : Int32} {u0 : ts_S} (hd : dt_filesWaiting u = some (r0, u0)) : ts_Ci tF l yT_filesWaiting (.code yT_filesWaiting bT_filesWaiting 3 (some .int) :: uW) rT_filesWaiting (fun ad => [.ref (ad 0)]) u r0 u0 := by
  refine ts_in_i tF l (by decide) (fun p e s m args below meth c D ca ad A hc hn hr hlk hw => ?_)
  have hx := hc.1
  have hb := hc.2.1
  have hl := lv_entry ([.ref (ad 0)]) (n := 3) (Nat.le_of_ble_eq_true rfl)
  rw [lg_entry_eq]
  generalize (lg_sl ([.ref (ad 0)]) ++ List.replicate (3 - (lg_sl ([.ref (ad 0)])).length) Slot.unset).toArray = ls at hl ⊢
  replace hl : lv_has ls 3 [(0, .ref (ad 0))] := hl
  have L4 : ∀ (n : Nat) (u : ts_S) (x1 x2 : Int32) (H : Heap) (locs : List Loc) (ls : Array Slot), dt_filesWaiting_4 n u x1 x2 = some (r0, u0) → ts_W tF D ca ad A s H locs u → lv_has ls 3 [(0, .ref (ad 0)), (1, .int x1), (2, .int x2)] → W p l e rT_filesWaiting s m args below meth c H locs 0 0 (MQ below (va_Qi (fun r v => r = r0 ∧ v = u0) (ts_post tF D ca ad A) A) args s 0 0 A) (F0 m 4 ls []) := by
    intro n
    induction n with
    | zero => intro u x1 x2 H locs ls hd; cases (show (none : Option (Int32 × ts_S)) = some (r0, u0) from hd)
    | succ n4 ih4 =>
      intro u x1 x2 H locs ls hd hw hl
      replace hd : dt_filesWaiting_4_b (dt_filesWaiting_4 n4) u x1 x2 = some (r0, u0) := hd
      unfold dt_filesWaiting_4_b at hd
      refine lv_iload_n hx hb dT_filesWaiting_4 rfl (lv_at hl 2 rfl) ?_
      refine lv_bipush (v := 16) hx hb dT_filesWaiting_5 (by decide) ?_
      refine lv_icmp_ge (tgt := 28) hx hb dT_filesWaiting_7 (by decide) (fun cq => ?_) (fun cq => ?_)
      · replace hd := ts_if_p cq hd
        refine lv_iload_n hx hb dT_filesWaiting_28 rfl (lv_at hl 1 rfl) ?_
        exact ts_iret hx hb hr hlk (vp_nar_int _) hw hd dT_filesWaiting_29
      · replace hd := ts_if_n cq hd
        refine lv_aload_n hx hb dT_filesWaiting_10 rfl (lv_at hl 0 rfl) ?_
        refine gT_27 hc hn hw dT_filesWaiting_11 ?_
        refine lv_iload_n hx hb dT_filesWaiting_14 rfl (lv_at hl 2 rfl) ?_
        obtain ⟨h, hd⟩ := ts_ix_s hd
        refine tt_l7 hc hw h dT_filesWaiting_15 ?_
        refine lv_if_eq (tgt := 22) hx hb dT_filesWaiting_16 (by decide) (fun cq => ?_) (fun cq => ?_)
        · replace hd := ts_if_p cq hd
          refine lv_iinc (v := (x2 + 1)) (lv' := [(2, .int (x2 + 1)), (0, .ref (ad 0)), (1, .int x1)]) hx hb dT_filesWaiting_22 hl (k := 2) rfl rfl (by decide) rfl (fun ls hl => ?_)
          refine lv_goto (tgt := 4) hx hb dT_filesWaiting_25 (by decide) ?_
          exact ih4 u x1 (x2 + 1) _ _ _ hd hw (lv_sub hl [1, 2, 0] rfl)
        · replace hd := ts_if_n cq hd
          refine lv_iinc (v := (x1 + 1)) (lv' := [(1, .int (x1 + 1)), (0, .ref (ad 0)), (2, .int x2)]) hx hb dT_filesWaiting_19 hl (k := 1) rfl rfl (by decide) rfl (fun ls hl => ?_)
          refine lv_iinc (v := (x2 + 1)) (lv' := [(2, .int (x2 + 1)), (1, .int (x1 + 1)), (0, .ref (ad 0))]) hx hb dT_filesWaiting_22 hl (k := 2) rfl rfl (by decide) rfl (fun ls hl => ?_)
          refine lv_goto (tgt := 4) hx hb dT_filesWaiting_25 (by decide) ?_
          exact ih4 u (x1 + 1) (x2 + 1) _ _ _ hd hw (lv_sub hl [2, 1, 0] rfl)
  unfold dt_filesWaiting at hd
  refine lv_iconst (v := 0) hx hb dT_filesWaiting_0 (by decide) ?_
  refine lv_istore_n (lv' := [(1, .int 0), (0, .ref (ad 0))]) hx hb dT_filesWaiting_1 rfl hl (by decide) rfl (fun ls hl => ?_)
  refine lv_iconst (v := 0) hx hb dT_filesWaiting_2 (by decide) ?_
  refine lv_istore_n (lv' := [(2, .int 0), (1, .int 0), (0, .ref (ad 0))]) hx hb dT_filesWaiting_3 rfl hl (by decide) rfl (fun ls hl => ?_)
  exact L4 40 u 0 0 _ _ _ hd hw (lv_sub hl [2, 1, 0] rfl)
section
variable {p : Program} {l : Launch} {e : Env} {R : Room} {s : State} {m : MethodId} {args : Array Value} {below : List Frame} {meth : Method} {c : Code} {H : Heap} {locs : List Loc} {Q : State → Prop} {cc : ByteArray} {pc nL : Nat} {ls : Array Slot} {rest : List Value} {D : va_G} {ca : Nat → ClassId} {ad : Nat → Nat} {A : Nat → Prop} {u : ts_S} {cells slots : Nat}
theorem cT_113 (hc : CallFix p m c cc nL s args uW RT) (hn : nx s) (hw : ts_W tF D ca ad A s H locs u) {r0 : Int32} {u0 : ts_S} (hq : dt_filesWaiting u = some (r0, u0)) (hsz : ls.size = nL) (hR : rT_filesWaiting.frames + 1 ≤ R.frames ∧ 8 + (3 + 11) + rT_filesWaiting.locals ≤ R.locals) (hrest : (rest.map fun v => v.category).sum ≤ 8) (hdg : decode cc pc = .ok (.invokevirtual 113, 3)) (kk : ∀ (H1 : Heap) (locs1 : List Loc), ts_W tF D ca ad A s H1 locs1 u0 → W p l e R s m args below meth c H1 locs1 0 0 Q (F0 m (pc + 3) ls (.int r0 :: rest))) : W p l e R s m args below meth c H locs 0 0 Q (F0 m pc ls (.ref (ad 0) :: rest)) :=
  ts_callVi (b := ad 0) (As := []) hc hn hw (ct_filesWaiting l hq) rfl (cwV 0 hc.2.2.2.2 (gd_V (by decide +kernel) (by decide +kernel) (by decide +kernel) (by decide +kernel) (code_T_filesWaiting)) rfl rfl rfl (by decide +kernel) hR) (va_recv hw.2.2.2.1 hw.1 (ci := 1) (q0 := 0) rfl rfl) rfl hsz hrest hdg kk
end
def rT_ask : Room := { frames := 2, cells := 0, slots := 0, locals := 41 }
set_option maxHeartbeats 4000000 in
set_option maxRecDepth 100000 in
theorem ct_ask (l : Launch) {u : ts_S} {x1 : Int32} {r0 : Int32} {u0 : ts_S} (hd : dt_ask u x1 = some (r0, u0)) : ts_Ci tF l yT_ask (.code yT_ask bT_ask 2 (some .int) :: uW) rT_ask (fun ad => [.ref (ad 0), .int x1]) u r0 u0 := by
  refine ts_in_i tF l (by decide) (fun p e s m args below meth c D ca ad A hc hn hr hlk hw => ?_)
  have hx := hc.1
  have hb := hc.2.1
  have hl := lv_entry ([.ref (ad 0), .int x1]) (n := 2) (Nat.le_of_ble_eq_true rfl)
  rw [lg_entry_eq]
  generalize (lg_sl ([.ref (ad 0), .int x1]) ++ List.replicate (2 - (lg_sl ([.ref (ad 0), .int x1])).length) Slot.unset).toArray = ls at hl ⊢
  replace hl : lv_has ls 2 [(0, .ref (ad 0)), (1, .int x1)] := hl
  unfold dt_ask at hd
  refine lv_aload_n hx hb dT_ask_0 rfl (lv_at hl 0 rfl) ?_
  refine lv_iload_n hx hb dT_ask_1 rfl (lv_at hl 1 rfl) ?_
  obtain ⟨r2, u2, hq, hd⟩ := ts_b_s hd
  refine cT_88 hc hn hw hq hl.1 ⟨Nat.le_of_ble_eq_true rfl, Nat.le_of_ble_eq_true rfl⟩ (Nat.le_of_ble_eq_true rfl) dT_ask_2 (fun H locs hw => ?_)
  refine lv_if_ne (tgt := 10) hx hb dT_ask_5 (by decide) (fun cq => ?_) (fun cq => ?_)
  · replace hd := ts_if_n cq hd
    refine lv_aload_n hx hb dT_ask_10 rfl (lv_at hl 0 rfl) ?_
    refine gT_9 hc hn hw dT_ask_11 ?_
    refine lv_iload_n hx hb dT_ask_14 rfl (lv_at hl 1 rfl) ?_
    obtain ⟨h, hd⟩ := ts_ix_s hd
    refine tt_l2 hc hw h dT_ask_15 ?_
    refine lv_iconst (v := 3) hx hb dT_ask_16 (by decide) ?_
    refine lv_icmp_ne (tgt := 29) hx hb dT_ask_17 (by decide) (fun cq => ?_) (fun cq => ?_)
    · replace hd := ts_if_n cq hd
      refine lv_iconst (v := (-1)) hx hb dT_ask_29 (by decide) ?_
      exact ts_iret hx hb hr hlk (vp_nar_int _) hw hd dT_ask_30
    · replace hd := ts_if_p cq hd
      refine lv_aload_n hx hb dT_ask_20 rfl (lv_at hl 0 rfl) ?_
      refine gT_27 hc hn hw dT_ask_21 ?_
      refine lv_iload_n hx hb dT_ask_24 rfl (lv_at hl 1 rfl) ?_
      obtain ⟨h, hd⟩ := ts_ix_s hd
      refine tt_l7 hc hw h dT_ask_25 ?_
      refine lv_if_eq (tgt := 31) hx hb dT_ask_26 (by decide) (fun cq => ?_) (fun cq => ?_)
      · replace hd := ts_if_p cq hd
        refine lv_aload_n hx hb dT_ask_31 rfl (lv_at hl 0 rfl) ?_
        obtain ⟨r32, u32, hq, hd⟩ := ts_b_s hd
        refine cT_113 hc hn hw hq hl.1 ⟨Nat.le_of_ble_eq_true rfl, Nat.le_of_ble_eq_true rfl⟩ (Nat.le_of_ble_eq_true rfl) dT_ask_32 (fun H locs hw => ?_)
        refine lv_bipush (v := 6) hx hb dT_ask_35 (by decide) ?_
        refine lv_icmp_lt (tgt := 43) hx hb dT_ask_37 (by decide) (fun cq => ?_) (fun cq => ?_)
        · replace hd := ts_if_p cq hd
          refine lv_aload_n hx hb dT_ask_43 rfl (lv_at hl 0 rfl) ?_
          refine gT_27 hc hn hw dT_ask_44 ?_
          refine lv_iload_n hx hb dT_ask_47 rfl (lv_at hl 1 rfl) ?_
          refine lv_iconst (v := 1) hx hb dT_ask_48 (by decide) ?_
          obtain ⟨h, hd⟩ := ts_ix_s hd
          refine tt_s7 hc hw h (by decide +kernel) dT_ask_49 (fun H locs hw => ?_)
          refine lv_iconst (v := 0) hx hb dT_ask_50 (by decide) ?_
          exact ts_iret hx hb hr hlk (vp_nar_int _) hw hd dT_ask_51
        · replace hd := ts_if_n cq hd
          refine lv_bipush (v := (-2)) hx hb dT_ask_40 (by decide) ?_
          exact ts_iret hx hb hr hlk (vp_nar_int _) hw hd dT_ask_42
      · replace hd := ts_if_n cq hd
        refine lv_iconst (v := (-1)) hx hb dT_ask_29 (by decide) ?_
        exact ts_iret hx hb hr hlk (vp_nar_int _) hw hd dT_ask_30
  · replace hd := ts_if_p cq hd
    refine lv_iconst (v := (-1)) hx hb dT_ask_8 (by decide) ?_
    exact ts_iret hx hb hr hlk (vp_nar_int _) hw hd dT_ask_9
def rT_keepWaitingStubs : Room := { frames := 0, cells := 0, slots := 0, locals := 0 }
set_option maxHeartbeats 4000000 in
set_option maxRecDepth 100000 in
theorem ct_keepWaitingStubs (l : Launch) {u : ts_S} {r0 : Int32} {u0 : ts_S} (hd : dt_keepWaitingStubs u = some (r0, u0)) : ts_Cv tF l yT_keepWaitingStubs (.code yT_keepWaitingStubs bT_keepWaitingStubs 4 none :: uW) rT_keepWaitingStubs (fun ad => [.ref (ad 0)]) u u0 := by
  refine ts_in_v tF l (by decide) (fun p e s m args below meth c D ca ad A hc hn hr hlk hw => ?_)
  have hx := hc.1
  have hb := hc.2.1
  have hl := lv_entry ([.ref (ad 0)]) (n := 4) (Nat.le_of_ble_eq_true rfl)
  rw [lg_entry_eq]
  generalize (lg_sl ([.ref (ad 0)]) ++ List.replicate (4 - (lg_sl ([.ref (ad 0)])).length) Slot.unset).toArray = ls at hl ⊢
  replace hl : lv_has ls 4 [(0, .ref (ad 0))] := hl
  have L4 : ∀ (n : Nat) (u : ts_S) (x1 x2 : Int32) (H : Heap) (locs : List Loc) (ls : Array Slot), dt_keepWaitingStubs_4 n u x1 x2 = some (r0, u0) → ts_W tF D ca ad A s H locs u → lv_has ls 4 [(0, .ref (ad 0)), (1, .int x1), (2, .int x2)] → W p l e rT_keepWaitingStubs s m args below meth c H locs 0 0 (MQ below (va_Qv (fun v => v = u0) (ts_post tF D ca ad A) A) args s 0 0 A) (F0 m 4 ls []) := by
    intro n
    induction n with
    | zero => intro u x1 x2 H locs ls hd; cases (show (none : Option (Int32 × ts_S)) = some (r0, u0) from hd)
    | succ n4 ih4 =>
      intro u x1 x2 H locs ls hd hw hl
      replace hd : dt_keepWaitingStubs_4_b (dt_keepWaitingStubs_4 n4) u x1 x2 = some (r0, u0) := hd
      unfold dt_keepWaitingStubs_4_b at hd
      refine lv_iload_n hx hb dT_keepWaitingStubs_4 rfl (lv_at hl 2 rfl) ?_
      refine lv_aload_n hx hb dT_keepWaitingStubs_5 rfl (lv_at hl 0 rfl) ?_
      refine gT_41 hc hn hw dT_keepWaitingStubs_6 ?_
      refine lv_icmp_ge (tgt := 54) hx hb dT_keepWaitingStubs_9 (by decide) (fun cq => ?_) (fun cq => ?_)
      · replace hd := ts_if_p cq hd
        refine lv_aload_n hx hb dT_keepWaitingStubs_54 rfl (lv_at hl 0 rfl) ?_
        refine lv_iload_n hx hb dT_keepWaitingStubs_55 rfl (lv_at hl 1 rfl) ?_
        refine pT_41 hc hn hw dT_keepWaitingStubs_56 (fun H locs hw => ?_)
        exact ts_vret hx hb hr hlk hw hd dT_keepWaitingStubs_59
      · replace hd := ts_if_n cq hd
        refine lv_aload_n hx hb dT_keepWaitingStubs_12 rfl (lv_at hl 0 rfl) ?_
        refine gT_38 hc hn hw dT_keepWaitingStubs_13 ?_
        refine lv_iload_n hx hb dT_keepWaitingStubs_16 rfl (lv_at hl 2 rfl) ?_
        obtain ⟨h, hd⟩ := ts_ix_s hd
        refine tt_l9 hc hw h dT_keepWaitingStubs_17 ?_
        refine lv_istore_n (lv' := [(3, .int (u.2 9 x2.toNatClampNeg)), (0, .ref (ad 0)), (1, .int x1), (2, .int x2)]) hx hb dT_keepWaitingStubs_18 rfl hl (by decide) rfl (fun ls hl => ?_)
        refine lv_aload_n hx hb dT_keepWaitingStubs_19 rfl (lv_at hl 1 rfl) ?_
        refine gT_27 hc hn hw dT_keepWaitingStubs_20 ?_
        refine lv_iload_n hx hb dT_keepWaitingStubs_23 rfl (lv_at hl 0 rfl) ?_
        obtain ⟨h, hd⟩ := ts_ix_s hd
        refine tt_l7 hc hw h dT_keepWaitingStubs_24 ?_
        refine lv_if_eq (tgt := 48) hx hb dT_keepWaitingStubs_25 (by decide) (fun cq => ?_) (fun cq => ?_)
        · replace hd := ts_if_p cq hd
          refine lv_iinc (v := (x2 + 1)) (lv' := [(2, .int (x2 + 1)), (3, .int (u.2 9 x2.toNatClampNeg)), (0, .ref (ad 0)), (1, .int x1)]) hx hb dT_keepWaitingStubs_48 hl (k := 3) rfl rfl (by decide) rfl (fun ls hl => ?_)
          refine lv_goto (tgt := 4) hx hb dT_keepWaitingStubs_51 (by decide) ?_
          exact ih4 u x1 (x2 + 1) _ _ _ hd hw (lv_sub hl [2, 3, 0] rfl)
        · replace hd := ts_if_n cq hd
          refine lv_aload_n hx hb dT_keepWaitingStubs_28 rfl (lv_at hl 1 rfl) ?_
          refine gT_9 hc hn hw dT_keepWaitingStubs_29 ?_
          refine lv_iload_n hx hb dT_keepWaitingStubs_32 rfl (lv_at hl 0 rfl) ?_
          obtain ⟨h, hd⟩ := ts_ix_s hd
          refine tt_l2 hc hw h dT_keepWaitingStubs_33 ?_
          refine lv_iconst (v := 3) hx hb dT_keepWaitingStubs_34 (by decide) ?_
          refine lv_icmp_ne (tgt := 48) hx hb dT_keepWaitingStubs_35 (by decide) (fun cq => ?_) (fun cq => ?_)
          · replace hd := ts_if_n cq hd
            refine lv_iinc (v := (x2 + 1)) (lv' := [(2, .int (x2 + 1)), (3, .int (u.2 9 x2.toNatClampNeg)), (0, .ref (ad 0)), (1, .int x1)]) hx hb dT_keepWaitingStubs_48 hl (k := 3) rfl rfl (by decide) rfl (fun ls hl => ?_)
            refine lv_goto (tgt := 4) hx hb dT_keepWaitingStubs_51 (by decide) ?_
            exact ih4 u x1 (x2 + 1) _ _ _ hd hw (lv_sub hl [2, 3, 0] rfl)
          · replace hd := ts_if_p cq hd
            refine lv_aload_n hx hb dT_keepWaitingStubs_38 rfl (lv_at hl 1 rfl) ?_
            refine gT_38 hc hn hw dT_keepWaitingStubs_39 ?_
            refine lv_iload_n hx hb dT_keepWaitingStubs_42 rfl (lv_at hl 2 rfl) ?_
            refine lv_iload_n hx hb dT_keepWaitingStubs_43 rfl (lv_at hl 0 rfl) ?_
            obtain ⟨h, hd⟩ := ts_ix_s hd
            refine tt_s9 hc hw h dT_keepWaitingStubs_44 (fun H locs hw => ?_)
            refine lv_iinc (v := (x1 + 1)) (lv' := [(1, .int (x1 + 1)), (3, .int (u.2 9 x2.toNatClampNeg)), (0, .ref (ad 0)), (2, .int x2)]) hx hb dT_keepWaitingStubs_45 hl (k := 2) rfl rfl (by decide) rfl (fun ls hl => ?_)
            refine lv_iinc (v := (x2 + 1)) (lv' := [(2, .int (x2 + 1)), (1, .int (x1 + 1)), (3, .int (u.2 9 x2.toNatClampNeg)), (0, .ref (ad 0))]) hx hb dT_keepWaitingStubs_48 hl (k := 3) rfl rfl (by decide) rfl (fun ls hl => ?_)
            refine lv_goto (tgt := 4) hx hb dT_keepWaitingStubs_51 (by decide) ?_
            exact ih4 (ts_a 9 x1.toNatClampNeg (u.2 9 x2.toNatClampNeg) u) (x1 + 1) (x2 + 1) _ _ _ hd hw (lv_sub hl [3, 1, 0] rfl)
  unfold dt_keepWaitingStubs at hd
  refine lv_iconst (v := 0) hx hb dT_keepWaitingStubs_0 (by decide) ?_
  refine lv_istore_n (lv' := [(1, .int 0), (0, .ref (ad 0))]) hx hb dT_keepWaitingStubs_1 rfl hl (by decide) rfl (fun ls hl => ?_)
  refine lv_iconst (v := 0) hx hb dT_keepWaitingStubs_2 (by decide) ?_
  refine lv_istore_n (lv' := [(2, .int 0), (1, .int 0), (0, .ref (ad 0))]) hx hb dT_keepWaitingStubs_3 rfl hl (by decide) rfl (fun ls hl => ?_)
  exact L4 40 u 0 0 _ _ _ hd hw (lv_sub hl [2, 1, 0] rfl)
section
variable {p : Program} {l : Launch} {e : Env} {R : Room} {s : State} {m : MethodId} {args : Array Value} {below : List Frame} {meth : Method} {c : Code} {H : Heap} {locs : List Loc} {Q : State → Prop} {cc : ByteArray} {pc nL : Nat} {ls : Array Slot} {rest : List Value} {D : va_G} {ca : Nat → ClassId} {ad : Nat → Nat} {A : Nat → Prop} {u : ts_S} {cells slots : Nat}
theorem cT_177 (hc : CallFix p m c cc nL s args uW RT) (hn : nx s) (hw : ts_W tF D ca ad A s H locs u) {r0 : Int32} {u0 : ts_S} (hq : dt_keepWaitingStubs u = some (r0, u0)) (hsz : ls.size = nL) (hR : rT_keepWaitingStubs.frames + 1 ≤ R.frames ∧ 8 + (4 + 11) + rT_keepWaitingStubs.locals ≤ R.locals) (hrest : (rest.map fun v => v.category).sum ≤ 8) (hdg : decode cc pc = .ok (.invokevirtual 177, 3)) (kk : ∀ (H1 : Heap) (locs1 : List Loc), ts_W tF D ca ad A s H1 locs1 u0 → W p l e R s m args below meth c H1 locs1 0 0 Q (F0 m (pc + 3) ls rest)) : W p l e R s m args below meth c H locs 0 0 Q (F0 m pc ls (.ref (ad 0) :: rest)) :=
  ts_callVv (b := ad 0) (As := []) hc hn hw (ct_keepWaitingStubs l hq) rfl (cwV 0 hc.2.2.2.2 (gd_V (by decide +kernel) (by decide +kernel) (by decide +kernel) (by decide +kernel) (code_T_keepWaitingStubs)) rfl rfl rfl (by decide +kernel) hR) (va_recv hw.2.2.2.1 hw.1 (ci := 1) (q0 := 0) rfl rfl) rfl hsz hrest hdg kk
end
def rT_hasCopy : Room := { frames := 0, cells := 0, slots := 0, locals := 0 }
set_option maxHeartbeats 4000000 in
set_option maxRecDepth 100000 in
theorem ct_hasCopy (l : Launch) {u : ts_S} {x1 : Int32} {r0 : Int32} {u0 : ts_S} (hd : dt_hasCopy u x1 = some (r0, u0)) : ts_Ci tF l yT_hasCopy (.code yT_hasCopy bT_hasCopy 2 (some .boolean) :: uW) rT_hasCopy (fun ad => [.ref (ad 0), .int x1]) u r0 u0 := by
  refine ts_in_i tF l (by decide) (fun p e s m args below meth c D ca ad A hc hn hr hlk hw => ?_)
  have hx := hc.1
  have hb := hc.2.1
  have hl := lv_entry ([.ref (ad 0), .int x1]) (n := 2) (Nat.le_of_ble_eq_true rfl)
  rw [lg_entry_eq]
  generalize (lg_sl ([.ref (ad 0), .int x1]) ++ List.replicate (2 - (lg_sl ([.ref (ad 0), .int x1])).length) Slot.unset).toArray = ls at hl ⊢
  replace hl : lv_has ls 2 [(0, .ref (ad 0)), (1, .int x1)] := hl
  unfold dt_hasCopy at hd
  refine lv_aload_n hx hb dT_hasCopy_0 rfl (lv_at hl 0 rfl) ?_
  refine gT_9 hc hn hw dT_hasCopy_1 ?_
  refine lv_iload_n hx hb dT_hasCopy_4 rfl (lv_at hl 1 rfl) ?_
  obtain ⟨h, hd⟩ := ts_ix_s hd
  refine tt_l2 hc hw h dT_hasCopy_5 ?_
  refine lv_iconst (v := 2) hx hb dT_hasCopy_6 (by decide) ?_
  refine lv_icmp_eq (tgt := 20) hx hb dT_hasCopy_7 (by decide) (fun cq => ?_) (fun cq => ?_)
  · replace hd := ts_if_p cq hd
    refine lv_iconst (v := 1) hx hb dT_hasCopy_20 (by decide) ?_
    refine lv_goto (tgt := 25) hx hb dT_hasCopy_21 (by decide) ?_
    exact ts_iret hx hb hr hlk (by decide +kernel) hw hd dT_hasCopy_25
  · replace hd := ts_if_n cq hd
    refine lv_aload_n hx hb dT_hasCopy_10 rfl (lv_at hl 0 rfl) ?_
    refine gT_9 hc hn hw dT_hasCopy_11 ?_
    refine lv_iload_n hx hb dT_hasCopy_14 rfl (lv_at hl 1 rfl) ?_
    obtain ⟨h, hd⟩ := ts_ix_s hd
    refine tt_l2 hc hw h dT_hasCopy_15 ?_
    refine lv_iconst (v := 3) hx hb dT_hasCopy_16 (by decide) ?_
    refine lv_icmp_ne (tgt := 24) hx hb dT_hasCopy_17 (by decide) (fun cq => ?_) (fun cq => ?_)
    · replace hd := ts_if_n cq hd
      refine lv_iconst (v := 0) hx hb dT_hasCopy_24 (by decide) ?_
      exact ts_iret hx hb hr hlk (by decide +kernel) hw hd dT_hasCopy_25
    · replace hd := ts_if_p cq hd
      refine lv_iconst (v := 1) hx hb dT_hasCopy_20 (by decide) ?_
      refine lv_goto (tgt := 25) hx hb dT_hasCopy_21 (by decide) ?_
      exact ts_iret hx hb hr hlk (by decide +kernel) hw hd dT_hasCopy_25
section
variable {p : Program} {l : Launch} {e : Env} {R : Room} {s : State} {m : MethodId} {args : Array Value} {below : List Frame} {meth : Method} {c : Code} {H : Heap} {locs : List Loc} {Q : State → Prop} {cc : ByteArray} {pc nL : Nat} {ls : Array Slot} {rest : List Value} {D : va_G} {ca : Nat → ClassId} {ad : Nat → Nat} {A : Nat → Prop} {u : ts_S} {cells slots : Nat}
theorem cT_140 (hc : CallFix p m c cc nL s args uW RT) (hn : nx s) (hw : ts_W tF D ca ad A s H locs u) {x1 : Int32} {r0 : Int32} {u0 : ts_S} (hq : dt_hasCopy u x1 = some (r0, u0)) (hsz : ls.size = nL) (hR : rT_hasCopy.frames + 1 ≤ R.frames ∧ 8 + (2 + 11) + rT_hasCopy.locals ≤ R.locals) (hrest : (rest.map fun v => v.category).sum ≤ 8) (hdg : decode cc pc = .ok (.invokevirtual 140, 3)) (kk : ∀ (H1 : Heap) (locs1 : List Loc), ts_W tF D ca ad A s H1 locs1 u0 → W p l e R s m args below meth c H1 locs1 0 0 Q (F0 m (pc + 3) ls (.int r0 :: rest))) : W p l e R s m args below meth c H locs 0 0 Q (F0 m pc ls (.int x1 :: .ref (ad 0) :: rest)) :=
  ts_callVi (b := ad 0) (As := [.int x1]) hc hn hw (ct_hasCopy l hq) rfl (cwV 1 hc.2.2.2.2 (gd_V (by decide +kernel) (by decide +kernel) (by decide +kernel) (by decide +kernel) (code_T_hasCopy)) rfl rfl rfl (by decide +kernel) hR) (va_recv hw.2.2.2.1 hw.1 (ci := 1) (q0 := 0) rfl rfl) rfl hsz hrest hdg kk
end
def rT_hasCopyOn : Room := { frames := 1, cells := 0, slots := 0, locals := 21 }
set_option maxHeartbeats 4000000 in
set_option maxRecDepth 100000 in
theorem ct_hasCopyOn (l : Launch) {u : ts_S} {x1 x2 : Int32} {r0 : Int32} {u0 : ts_S} (hd : dt_hasCopyOn u x1 x2 = some (r0, u0)) : ts_Ci tF l yT_hasCopyOn (.code yT_hasCopyOn bT_hasCopyOn 3 (some .boolean) :: uW) rT_hasCopyOn (fun ad => [.ref (ad 0), .int x1, .int x2]) u r0 u0 := by
  refine ts_in_i tF l (by decide) (fun p e s m args below meth c D ca ad A hc hn hr hlk hw => ?_)
  have hx := hc.1
  have hb := hc.2.1
  have hl := lv_entry ([.ref (ad 0), .int x1, .int x2]) (n := 3) (Nat.le_of_ble_eq_true rfl)
  rw [lg_entry_eq]
  generalize (lg_sl ([.ref (ad 0), .int x1, .int x2]) ++ List.replicate (3 - (lg_sl ([.ref (ad 0), .int x1, .int x2])).length) Slot.unset).toArray = ls at hl ⊢
  replace hl : lv_has ls 3 [(0, .ref (ad 0)), (1, .int x1), (2, .int x2)] := hl
  unfold dt_hasCopyOn at hd
  refine lv_aload_n hx hb dT_hasCopyOn_0 rfl (lv_at hl 0 rfl) ?_
  refine lv_iload_n hx hb dT_hasCopyOn_1 rfl (lv_at hl 1 rfl) ?_
  obtain ⟨r2, u2, hq, hd⟩ := ts_b_s hd
  refine cT_140 hc hn hw hq hl.1 ⟨Nat.le_of_ble_eq_true rfl, Nat.le_of_ble_eq_true rfl⟩ (Nat.le_of_ble_eq_true rfl) dT_hasCopyOn_2 (fun H locs hw => ?_)
  refine lv_if_eq (tgt := 22) hx hb dT_hasCopyOn_5 (by decide) (fun cq => ?_) (fun cq => ?_)
  · replace hd := ts_if_p cq hd
    refine lv_iconst (v := 0) hx hb dT_hasCopyOn_22 (by decide) ?_
    exact ts_iret hx hb hr hlk (by decide +kernel) hw hd dT_hasCopyOn_23
  · replace hd := ts_if_n cq hd
    refine lv_aload_n hx hb dT_hasCopyOn_8 rfl (lv_at hl 0 rfl) ?_
    refine gT_21 hc hn hw dT_hasCopyOn_9 ?_
    refine lv_iload_n hx hb dT_hasCopyOn_12 rfl (lv_at hl 1 rfl) ?_
    obtain ⟨h, hd⟩ := ts_ix_s hd
    refine tt_l5 hc hw h dT_hasCopyOn_13 ?_
    refine lv_iload_n hx hb dT_hasCopyOn_14 rfl (lv_at hl 2 rfl) ?_
    refine lv_icmp_ne (tgt := 22) hx hb dT_hasCopyOn_15 (by decide) (fun cq => ?_) (fun cq => ?_)
    · replace hd := ts_if_n cq hd
      refine lv_iconst (v := 0) hx hb dT_hasCopyOn_22 (by decide) ?_
      exact ts_iret hx hb hr hlk (by decide +kernel) hw hd dT_hasCopyOn_23
    · replace hd := ts_if_p cq hd
      refine lv_iconst (v := 1) hx hb dT_hasCopyOn_18 (by decide) ?_
      refine lv_goto (tgt := 23) hx hb dT_hasCopyOn_19 (by decide) ?_
      exact ts_iret hx hb hr hlk (by decide +kernel) hw hd dT_hasCopyOn_23
section
variable {p : Program} {l : Launch} {e : Env} {R : Room} {s : State} {m : MethodId} {args : Array Value} {below : List Frame} {meth : Method} {c : Code} {H : Heap} {locs : List Loc} {Q : State → Prop} {cc : ByteArray} {pc nL : Nat} {ls : Array Slot} {rest : List Value} {D : va_G} {ca : Nat → ClassId} {ad : Nat → Nat} {A : Nat → Prop} {u : ts_S} {cells slots : Nat}
theorem cT_134 (hc : CallFix p m c cc nL s args uW RT) (hn : nx s) (hw : ts_W tF D ca ad A s H locs u) {x1 x2 : Int32} {r0 : Int32} {u0 : ts_S} (hq : dt_hasCopyOn u x1 x2 = some (r0, u0)) (hsz : ls.size = nL) (hR : rT_hasCopyOn.frames + 1 ≤ R.frames ∧ 8 + (3 + 11) + rT_hasCopyOn.locals ≤ R.locals) (hrest : (rest.map fun v => v.category).sum ≤ 8) (hdg : decode cc pc = .ok (.invokevirtual 134, 3)) (kk : ∀ (H1 : Heap) (locs1 : List Loc), ts_W tF D ca ad A s H1 locs1 u0 → W p l e R s m args below meth c H1 locs1 0 0 Q (F0 m (pc + 3) ls (.int r0 :: rest))) : W p l e R s m args below meth c H locs 0 0 Q (F0 m pc ls (.int x2 :: .int x1 :: .ref (ad 0) :: rest)) :=
  ts_callVi (b := ad 0) (As := [.int x1, .int x2]) hc hn hw (ct_hasCopyOn l hq) rfl (cwV 2 hc.2.2.2.2 (gd_V (by decide +kernel) (by decide +kernel) (by decide +kernel) (by decide +kernel) (code_T_hasCopyOn)) rfl rfl rfl (by decide +kernel) hR) (va_recv hw.2.2.2.1 hw.1 (ci := 1) (q0 := 0) rfl rfl) rfl hsz hrest hdg kk
end
def rT_fileWithCopyAt : Room := { frames := 2, cells := 0, slots := 0, locals := 43 }
set_option maxHeartbeats 4000000 in
set_option maxRecDepth 100000 in
theorem ct_fileWithCopyAt (l : Launch) {u : ts_S} {x1 x2 : Int32} {r0 : Int32} {u0 : ts_S} (hd : dt_fileWithCopyAt u x1 x2 = some (r0, u0)) : ts_Ci tF l yT_fileWithCopyAt (.code yT_fileWithCopyAt bT_fileWithCopyAt 4 (some .int) :: uW) rT_fileWithCopyAt (fun ad => [.ref (ad 0), .int x1, .int x2]) u r0 u0 := by
  refine ts_in_i tF l (by decide) (fun p e s m args below meth c D ca ad A hc hn hr hlk hw => ?_)
  have hx := hc.1
  have hb := hc.2.1
  have hl := lv_entry ([.ref (ad 0), .int x1, .int x2]) (n := 4) (Nat.le_of_ble_eq_true rfl)
  rw [lg_entry_eq]
  generalize (lg_sl ([.ref (ad 0), .int x1, .int x2]) ++ List.replicate (4 - (lg_sl ([.ref (ad 0), .int x1, .int x2])).length) Slot.unset).toArray = ls at hl ⊢
  replace hl : lv_has ls 4 [(0, .ref (ad 0)), (1, .int x1), (2, .int x2)] := hl
  have L2 : ∀ (n : Nat) (u : ts_S) (x1 x2 x3 : Int32) (H : Heap) (locs : List Loc) (ls : Array Slot), dt_fileWithCopyAt_2 n u x1 x2 x3 = some (r0, u0) → ts_W tF D ca ad A s H locs u → lv_has ls 4 [(0, .ref (ad 0)), (1, .int x1), (2, .int x2), (3, .int x3)] → W p l e rT_fileWithCopyAt s m args below meth c H locs 0 0 (MQ below (va_Qi (fun r v => r = r0 ∧ v = u0) (ts_post tF D ca ad A) A) args s 0 0 A) (F0 m 2 ls []) := by
    intro n
    induction n with
    | zero => intro u x1 x2 x3 H locs ls hd; cases (show (none : Option (Int32 × ts_S)) = some (r0, u0) from hd)
    | succ n2 ih2 =>
      intro u x1 x2 x3 H locs ls hd hw hl
      replace hd : dt_fileWithCopyAt_2_b (dt_fileWithCopyAt_2 n2) u x1 x2 x3 = some (r0, u0) := hd
      unfold dt_fileWithCopyAt_2_b at hd
      refine lv_iload_n hx hb dT_fileWithCopyAt_2 rfl (lv_at hl 3 rfl) ?_
      refine lv_bipush (v := 16) hx hb dT_fileWithCopyAt_3 (by decide) ?_
      refine lv_icmp_ge (tgt := 35) hx hb dT_fileWithCopyAt_5 (by decide) (fun cq => ?_) (fun cq => ?_)
      · replace hd := ts_if_p cq hd
        refine lv_iconst (v := (-1)) hx hb dT_fileWithCopyAt_35 (by decide) ?_
        exact ts_iret hx hb hr hlk (vp_nar_int _) hw hd dT_fileWithCopyAt_36
      · replace hd := ts_if_n cq hd
        refine lv_aload_n hx hb dT_fileWithCopyAt_8 rfl (lv_at hl 0 rfl) ?_
        refine lv_iload_n hx hb dT_fileWithCopyAt_9 rfl (lv_at hl 3 rfl) ?_
        refine lv_iload_n hx hb dT_fileWithCopyAt_10 rfl (lv_at hl 1 rfl) ?_
        obtain ⟨r11, u11, hq, hd⟩ := ts_b_s hd
        refine cT_134 hc hn hw hq hl.1 ⟨Nat.le_of_ble_eq_true rfl, Nat.le_of_ble_eq_true rfl⟩ (Nat.le_of_ble_eq_true rfl) dT_fileWithCopyAt_11 (fun H locs hw => ?_)
        refine lv_if_eq (tgt := 29) hx hb dT_fileWithCopyAt_14 (by decide) (fun cq => ?_) (fun cq => ?_)
        · replace hd := ts_if_p cq hd
          refine lv_iinc (v := (x3 + 1)) (lv' := [(3, .int (x3 + 1)), (0, .ref (ad 0)), (1, .int x1), (2, .int x2)]) hx hb dT_fileWithCopyAt_29 hl (k := 3) rfl rfl (by decide) rfl (fun ls hl => ?_)
          refine lv_goto (tgt := 2) hx hb dT_fileWithCopyAt_32 (by decide) ?_
          exact ih2 u11 x1 x2 (x3 + 1) _ _ _ hd hw (lv_sub hl [1, 2, 3, 0] rfl)
        · replace hd := ts_if_n cq hd
          refine lv_aload_n hx hb dT_fileWithCopyAt_17 rfl (lv_at hl 0 rfl) ?_
          refine gT_24 hc hn hw dT_fileWithCopyAt_18 ?_
          refine lv_iload_n hx hb dT_fileWithCopyAt_21 rfl (lv_at hl 3 rfl) ?_
          obtain ⟨h, hd⟩ := ts_ix_s hd
          refine tt_l6 hc hw h dT_fileWithCopyAt_22 ?_
          refine lv_iload_n hx hb dT_fileWithCopyAt_23 rfl (lv_at hl 2 rfl) ?_
          refine lv_icmp_ne (tgt := 29) hx hb dT_fileWithCopyAt_24 (by decide) (fun cq => ?_) (fun cq => ?_)
          · replace hd := ts_if_n cq hd
            refine lv_iinc (v := (x3 + 1)) (lv' := [(3, .int (x3 + 1)), (0, .ref (ad 0)), (1, .int x1), (2, .int x2)]) hx hb dT_fileWithCopyAt_29 hl (k := 3) rfl rfl (by decide) rfl (fun ls hl => ?_)
            refine lv_goto (tgt := 2) hx hb dT_fileWithCopyAt_32 (by decide) ?_
            exact ih2 u11 x1 x2 (x3 + 1) _ _ _ hd hw (lv_sub hl [1, 2, 3, 0] rfl)
          · replace hd := ts_if_p cq hd
            refine lv_iload_n hx hb dT_fileWithCopyAt_27 rfl (lv_at hl 3 rfl) ?_
            exact ts_iret hx hb hr hlk (vp_nar_int _) hw hd dT_fileWithCopyAt_28
  unfold dt_fileWithCopyAt at hd
  refine lv_iconst (v := 0) hx hb dT_fileWithCopyAt_0 (by decide) ?_
  refine lv_istore_n (lv' := [(3, .int 0), (0, .ref (ad 0)), (1, .int x1), (2, .int x2)]) hx hb dT_fileWithCopyAt_1 rfl hl (by decide) rfl (fun ls hl => ?_)
  exact L2 40 u x1 x2 0 _ _ _ hd hw (lv_sub hl [1, 2, 3, 0] rfl)
section
variable {p : Program} {l : Launch} {e : Env} {R : Room} {s : State} {m : MethodId} {args : Array Value} {below : List Frame} {meth : Method} {c : Code} {H : Heap} {locs : List Loc} {Q : State → Prop} {cc : ByteArray} {pc nL : Nat} {ls : Array Slot} {rest : List Value} {D : va_G} {ca : Nat → ClassId} {ad : Nat → Nat} {A : Nat → Prop} {u : ts_S} {cells slots : Nat}
theorem cT_183 (hc : CallFix p m c cc nL s args uW RT) (hn : nx s) (hw : ts_W tF D ca ad A s H locs u) {x1 x2 : Int32} {r0 : Int32} {u0 : ts_S} (hq : dt_fileWithCopyAt u x1 x2 = some (r0, u0)) (hsz : ls.size = nL) (hR : rT_fileWithCopyAt.frames + 1 ≤ R.frames ∧ 8 + (4 + 11) + rT_fileWithCopyAt.locals ≤ R.locals) (hrest : (rest.map fun v => v.category).sum ≤ 8) (hdg : decode cc pc = .ok (.invokevirtual 183, 3)) (kk : ∀ (H1 : Heap) (locs1 : List Loc), ts_W tF D ca ad A s H1 locs1 u0 → W p l e R s m args below meth c H1 locs1 0 0 Q (F0 m (pc + 3) ls (.int r0 :: rest))) : W p l e R s m args below meth c H locs 0 0 Q (F0 m pc ls (.int x2 :: .int x1 :: .ref (ad 0) :: rest)) :=
  ts_callVi (b := ad 0) (As := [.int x1, .int x2]) hc hn hw (ct_fileWithCopyAt l hq) rfl (cwV 2 hc.2.2.2.2 (gd_V (by decide +kernel) (by decide +kernel) (by decide +kernel) (by decide +kernel) (code_T_fileWithCopyAt)) rfl rfl rfl (by decide +kernel) hR) (va_recv hw.2.2.2.1 hw.1 (ci := 1) (q0 := 0) rfl rfl) rfl hsz hrest hdg kk
end
def rT_listCopiesOn : Room := { frames := 3, cells := 0, slots := 0, locals := 66 }
set_option maxHeartbeats 4000000 in
set_option maxRecDepth 100000 in
theorem ct_listCopiesOn (l : Launch) {u : ts_S} {x1 : Int32} {r0 : Int32} {u0 : ts_S} (hd : dt_listCopiesOn u x1 = some (r0, u0)) : ts_Cv tF l yT_listCopiesOn (.code yT_listCopiesOn bT_listCopiesOn 4 none :: uW) rT_listCopiesOn (fun ad => [.ref (ad 0), .int x1]) u u0 := by
  refine ts_in_v tF l (by decide) (fun p e s m args below meth c D ca ad A hc hn hr hlk hw => ?_)
  have hx := hc.1
  have hb := hc.2.1
  have hl := lv_entry ([.ref (ad 0), .int x1]) (n := 4) (Nat.le_of_ble_eq_true rfl)
  rw [lg_entry_eq]
  generalize (lg_sl ([.ref (ad 0), .int x1]) ++ List.replicate (4 - (lg_sl ([.ref (ad 0), .int x1])).length) Slot.unset).toArray = ls at hl ⊢
  replace hl : lv_has ls 4 [(0, .ref (ad 0)), (1, .int x1)] := hl
  have L2 : ∀ (n : Nat) (u : ts_S) (x1 x2 : Int32) (H : Heap) (locs : List Loc) (ls : Array Slot), dt_listCopiesOn_2 n u x1 x2 = some (r0, u0) → ts_W tF D ca ad A s H locs u → lv_has ls 4 [(0, .ref (ad 0)), (1, .int x1), (2, .int x2)] → W p l e rT_listCopiesOn s m args below meth c H locs 0 0 (MQ below (va_Qv (fun v => v = u0) (ts_post tF D ca ad A) A) args s 0 0 A) (F0 m 2 ls []) := by
    intro n
    induction n with
    | zero => intro u x1 x2 H locs ls hd; cases (show (none : Option (Int32 × ts_S)) = some (r0, u0) from hd)
    | succ n2 ih2 =>
      intro u x1 x2 H locs ls hd hw hl
      replace hd : dt_listCopiesOn_2_b (dt_listCopiesOn_2 n2) u x1 x2 = some (r0, u0) := hd
      unfold dt_listCopiesOn_2_b at hd
      refine lv_iload_n hx hb dT_listCopiesOn_2 rfl (lv_at hl 2 rfl) ?_
      refine lv_aload_n hx hb dT_listCopiesOn_3 rfl (lv_at hl 0 rfl) ?_
      refine gT_61 hc hn hw dT_listCopiesOn_4 ?_
      refine gT_180 hc hn hw dT_listCopiesOn_7 ?_
      refine lv_icmp_ge (tgt := 60) hx hb dT_listCopiesOn_10 (by decide) (fun cq => ?_) (fun cq => ?_)
      · replace hd := ts_if_p cq hd
        exact ts_vret hx hb hr hlk hw hd dT_listCopiesOn_60
      · replace hd := ts_if_n cq hd
        refine lv_aload_n hx hb dT_listCopiesOn_13 rfl (lv_at hl 0 rfl) ?_
        refine lv_iload_n hx hb dT_listCopiesOn_14 rfl (lv_at hl 1 rfl) ?_
        refine lv_iload_n hx hb dT_listCopiesOn_15 rfl (lv_at hl 2 rfl) ?_
        obtain ⟨r16, u16, hq, hd⟩ := ts_b_s hd
        refine cT_183 hc hn hw hq hl.1 ⟨Nat.le_of_ble_eq_true rfl, Nat.le_of_ble_eq_true rfl⟩ (Nat.le_of_ble_eq_true rfl) dT_listCopiesOn_16 (fun H locs hw => ?_)
        refine lv_istore_n (lv' := [(3, .int r16), (0, .ref (ad 0)), (1, .int x1), (2, .int x2)]) hx hb dT_listCopiesOn_19 rfl hl (by decide) rfl (fun ls hl => ?_)
        refine lv_iload_n hx hb dT_listCopiesOn_20 rfl (lv_at hl 0 rfl) ?_
        refine lv_iconst (v := (-1)) hx hb dT_listCopiesOn_21 (by decide) ?_
        refine lv_icmp_eq (tgt := 54) hx hb dT_listCopiesOn_22 (by decide) (fun cq => ?_) (fun cq => ?_)
        · replace hd := ts_if_p cq hd
          refine lv_iinc (v := (x2 + 1)) (lv' := [(2, .int (x2 + 1)), (3, .int r16), (0, .ref (ad 0)), (1, .int x1)]) hx hb dT_listCopiesOn_54 hl (k := 3) rfl rfl (by decide) rfl (fun ls hl => ?_)
          refine lv_goto (tgt := 2) hx hb dT_listCopiesOn_57 (by decide) ?_
          exact ih2 u16 x1 (x2 + 1) _ _ _ hd hw (lv_sub hl [2, 3, 0] rfl)
        · replace hd := ts_if_n cq hd
          refine lv_aload_n hx hb dT_listCopiesOn_25 rfl (lv_at hl 1 rfl) ?_
          refine gT_41 hc hn hw dT_listCopiesOn_26 ?_
          refine lv_bipush (v := 16) hx hb dT_listCopiesOn_29 (by decide) ?_
          refine lv_icmp_ge (tgt := 54) hx hb dT_listCopiesOn_31 (by decide) (fun cq => ?_) (fun cq => ?_)
          · replace hd := ts_if_p cq hd
            refine lv_iinc (v := (x2 + 1)) (lv' := [(2, .int (x2 + 1)), (3, .int r16), (0, .ref (ad 0)), (1, .int x1)]) hx hb dT_listCopiesOn_54 hl (k := 3) rfl rfl (by decide) rfl (fun ls hl => ?_)
            refine lv_goto (tgt := 2) hx hb dT_listCopiesOn_57 (by decide) ?_
            exact ih2 u16 x1 (x2 + 1) _ _ _ hd hw (lv_sub hl [2, 3, 0] rfl)
          · replace hd := ts_if_n cq hd
            refine lv_aload_n hx hb dT_listCopiesOn_34 rfl (lv_at hl 1 rfl) ?_
            refine gT_38 hc hn hw dT_listCopiesOn_35 ?_
            refine lv_aload_n hx hb dT_listCopiesOn_38 rfl (lv_at hl 1 rfl) ?_
            refine gT_41 hc hn hw dT_listCopiesOn_39 ?_
            refine lv_iload_n hx hb dT_listCopiesOn_42 rfl (lv_at hl 0 rfl) ?_
            obtain ⟨h, hd⟩ := ts_ix_s hd
            refine tt_s9 hc hw h dT_listCopiesOn_43 (fun H locs hw => ?_)
            refine lv_aload_n hx hb dT_listCopiesOn_44 rfl (lv_at hl 1 rfl) ?_
            refine lv_dup hx hb dT_listCopiesOn_45 rfl ?_
            refine gT_41 hc hn hw dT_listCopiesOn_46 ?_
            refine lv_iconst (v := 1) hx hb dT_listCopiesOn_49 (by decide) ?_
            refine lv_iadd hx hb dT_listCopiesOn_50 ?_
            refine pT_41 hc hn hw dT_listCopiesOn_51 (fun H locs hw => ?_)
            refine lv_iinc (v := (x2 + 1)) (lv' := [(2, .int (x2 + 1)), (3, .int r16), (0, .ref (ad 0)), (1, .int x1)]) hx hb dT_listCopiesOn_54 hl (k := 3) rfl rfl (by decide) rfl (fun ls hl => ?_)
            refine lv_goto (tgt := 2) hx hb dT_listCopiesOn_57 (by decide) ?_
            exact ih2 (ts_p 2 (((ts_a 9 (u16.1 2).toNatClampNeg r16 u16).1 2) + 1) (ts_a 9 (u16.1 2).toNatClampNeg r16 u16)) x1 (x2 + 1) _ _ _ hd hw (lv_sub hl [2, 3, 0] rfl)
  unfold dt_listCopiesOn at hd
  refine lv_iconst (v := 0) hx hb dT_listCopiesOn_0 (by decide) ?_
  refine lv_istore_n (lv' := [(2, .int 0), (0, .ref (ad 0)), (1, .int x1)]) hx hb dT_listCopiesOn_1 rfl hl (by decide) rfl (fun ls hl => ?_)
  exact L2 40 u x1 0 _ _ _ hd hw (lv_sub hl [1, 2, 0] rfl)
section
variable {p : Program} {l : Launch} {e : Env} {R : Room} {s : State} {m : MethodId} {args : Array Value} {below : List Frame} {meth : Method} {c : Code} {H : Heap} {locs : List Loc} {Q : State → Prop} {cc : ByteArray} {pc nL : Nat} {ls : Array Slot} {rest : List Value} {D : va_G} {ca : Nat → ClassId} {ad : Nat → Nat} {A : Nat → Prop} {u : ts_S} {cells slots : Nat}
theorem cT_122 (hc : CallFix p m c cc nL s args uW RT) (hn : nx s) (hw : ts_W tF D ca ad A s H locs u) {x1 : Int32} {r0 : Int32} {u0 : ts_S} (hq : dt_listCopiesOn u x1 = some (r0, u0)) (hsz : ls.size = nL) (hR : rT_listCopiesOn.frames + 1 ≤ R.frames ∧ 8 + (4 + 11) + rT_listCopiesOn.locals ≤ R.locals) (hrest : (rest.map fun v => v.category).sum ≤ 8) (hdg : decode cc pc = .ok (.invokevirtual 122, 3)) (kk : ∀ (H1 : Heap) (locs1 : List Loc), ts_W tF D ca ad A s H1 locs1 u0 → W p l e R s m args below meth c H1 locs1 0 0 Q (F0 m (pc + 3) ls rest)) : W p l e R s m args below meth c H locs 0 0 Q (F0 m pc ls (.int x1 :: .ref (ad 0) :: rest)) :=
  ts_callVv (b := ad 0) (As := [.int x1]) hc hn hw (ct_listCopiesOn l hq) rfl (cwV 1 hc.2.2.2.2 (gd_V (by decide +kernel) (by decide +kernel) (by decide +kernel) (by decide +kernel) (code_T_listCopiesOn)) rfl rfl rfl (by decide +kernel) hR) (va_recv hw.2.2.2.1 hw.1 (ci := 1) (q0 := 0) rfl rfl) rfl hsz hrest hdg kk
end
