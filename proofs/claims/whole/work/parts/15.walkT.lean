def rT_liveUnits : Room := { frames := 2, cells := 0, slots := 0, locals := 43 }
set_option maxHeartbeats 4000000 in
set_option maxRecDepth 100000 in
theorem ct_liveUnits (l : Launch) {u : ts_S} {x1 : Int32} {r0 : Int32} {u0 : ts_S} (hd : dt_liveUnits u x1 = some (r0, u0)) : ts_Ci tF l yT_liveUnits (.code yT_liveUnits bT_liveUnits 4 (some .int) :: uW) rT_liveUnits (fun ad => [.ref (ad 0), .int x1]) u r0 u0 := by
  refine ts_in_i tF l (by decide) (fun p e s m args below meth c D ca ad A hc hn hr hlk hw => ?_)
  have hx := hc.1
  have hb := hc.2.1
  have hl := lv_entry ([.ref (ad 0), .int x1]) (n := 4) (Nat.le_of_ble_eq_true rfl)
  rw [lg_entry_eq]
  generalize (lg_sl ([.ref (ad 0), .int x1]) ++ List.replicate (4 - (lg_sl ([.ref (ad 0), .int x1])).length) Slot.unset).toArray = ls at hl ⊢
  replace hl : lv_has ls 4 [(0, .ref (ad 0)), (1, .int x1)] := hl
  have L4 : ∀ (n : Nat) (u : ts_S) (x1 x2 x3 : Int32) (H : Heap) (locs : List Loc) (ls : Array Slot), dt_liveUnits_4 n u x1 x2 x3 = some (r0, u0) → ts_W tF D ca ad A s H locs u → lv_has ls 4 [(0, .ref (ad 0)), (1, .int x1), (2, .int x2), (3, .int x3)] → W p l e rT_liveUnits s m args below meth c H locs 0 0 (MQ below (va_Qi (fun r v => r = r0 ∧ v = u0) (ts_post tF D ca ad A) A) args s 0 0 A) (F0 m 4 ls []) := by
    intro n
    induction n with
    | zero => intro u x1 x2 x3 H locs ls hd; cases (show (none : Option (Int32 × ts_S)) = some (r0, u0) from hd)
    | succ n4 ih4 =>
      intro u x1 x2 x3 H locs ls hd hw hl
      replace hd : dt_liveUnits_4_b (dt_liveUnits_4 n4) u x1 x2 x3 = some (r0, u0) := hd
      unfold dt_liveUnits_4_b at hd
      refine lv_iload_n hx hb dT_liveUnits_4 rfl (lv_at hl 3 rfl) ?_
      refine lv_bipush (v := 16) hx hb dT_liveUnits_5 (by decide) ?_
      refine lv_icmp_ge (tgt := 34) hx hb dT_liveUnits_7 (by decide) (fun cq => ?_) (fun cq => ?_)
      · replace hd := ts_if_p cq hd
        refine lv_iload_n hx hb dT_liveUnits_34 rfl (lv_at hl 2 rfl) ?_
        exact ts_iret hx hb hr hlk (vp_nar_int _) hw hd dT_liveUnits_35
      · replace hd := ts_if_n cq hd
        refine lv_aload_n hx hb dT_liveUnits_10 rfl (lv_at hl 0 rfl) ?_
        refine lv_iload_n hx hb dT_liveUnits_11 rfl (lv_at hl 3 rfl) ?_
        refine lv_iload_n hx hb dT_liveUnits_12 rfl (lv_at hl 1 rfl) ?_
        obtain ⟨r13, u13, hq, hd⟩ := ts_b_s hd
        refine cT_134 hc hn hw hq hl.1 ⟨Nat.le_of_ble_eq_true rfl, Nat.le_of_ble_eq_true rfl⟩ (Nat.le_of_ble_eq_true rfl) dT_liveUnits_13 (fun H locs hw => ?_)
        refine lv_if_eq (tgt := 28) hx hb dT_liveUnits_16 (by decide) (fun cq => ?_) (fun cq => ?_)
        · replace hd := ts_if_p cq hd
          refine lv_iinc (v := (x3 + 1)) (lv' := [(3, .int (x3 + 1)), (0, .ref (ad 0)), (1, .int x1), (2, .int x2)]) hx hb dT_liveUnits_28 hl (k := 3) rfl rfl (by decide) rfl (fun ls hl => ?_)
          refine lv_goto (tgt := 4) hx hb dT_liveUnits_31 (by decide) ?_
          exact ih4 u13 x1 x2 (x3 + 1) _ _ _ hd hw (lv_sub hl [1, 2, 3, 0] rfl)
        · replace hd := ts_if_n cq hd
          refine lv_iload_n hx hb dT_liveUnits_19 rfl (lv_at hl 2 rfl) ?_
          refine lv_aload_n hx hb dT_liveUnits_20 rfl (lv_at hl 0 rfl) ?_
          refine gT_13 hc hn hw dT_liveUnits_21 ?_
          refine lv_iload_n hx hb dT_liveUnits_24 rfl (lv_at hl 3 rfl) ?_
          obtain ⟨h, hd⟩ := ts_ix_s hd
          refine tt_l3 hc hw h dT_liveUnits_25 ?_
          refine lv_iadd hx hb dT_liveUnits_26 ?_
          refine lv_istore_n (lv' := [(2, .int (x2 + (u13.2 3 x3.toNatClampNeg))), (0, .ref (ad 0)), (1, .int x1), (3, .int x3)]) hx hb dT_liveUnits_27 rfl hl (by decide) rfl (fun ls hl => ?_)
          refine lv_iinc (v := (x3 + 1)) (lv' := [(3, .int (x3 + 1)), (2, .int (x2 + (u13.2 3 x3.toNatClampNeg))), (0, .ref (ad 0)), (1, .int x1)]) hx hb dT_liveUnits_28 hl (k := 3) rfl rfl (by decide) rfl (fun ls hl => ?_)
          refine lv_goto (tgt := 4) hx hb dT_liveUnits_31 (by decide) ?_
          exact ih4 u13 x1 (x2 + (u13.2 3 x3.toNatClampNeg)) (x3 + 1) _ _ _ hd hw (lv_sub hl [2, 3, 1, 0] rfl)
  unfold dt_liveUnits at hd
  refine lv_iconst (v := 0) hx hb dT_liveUnits_0 (by decide) ?_
  refine lv_istore_n (lv' := [(2, .int 0), (0, .ref (ad 0)), (1, .int x1)]) hx hb dT_liveUnits_1 rfl hl (by decide) rfl (fun ls hl => ?_)
  refine lv_iconst (v := 0) hx hb dT_liveUnits_2 (by decide) ?_
  refine lv_istore_n (lv' := [(3, .int 0), (2, .int 0), (0, .ref (ad 0)), (1, .int x1)]) hx hb dT_liveUnits_3 rfl hl (by decide) rfl (fun ls hl => ?_)
  exact L4 40 u x1 0 0 _ _ _ hd hw (lv_sub hl [2, 3, 1, 0] rfl)
section
variable {p : Program} {l : Launch} {e : Env} {R : Room} {s : State} {m : MethodId} {args : Array Value} {below : List Frame} {meth : Method} {c : Code} {H : Heap} {locs : List Loc} {Q : State → Prop} {cc : ByteArray} {pc nL : Nat} {ls : Array Slot} {rest : List Value} {D : va_G} {ca : Nat → ClassId} {ad : Nat → Nat} {A : Nat → Prop} {u : ts_S} {cells slots : Nat}
theorem cT_146 (hc : CallFix p m c cc nL s args uW RT) (hn : nx s) (hw : ts_W tF D ca ad A s H locs u) {x1 : Int32} {r0 : Int32} {u0 : ts_S} (hq : dt_liveUnits u x1 = some (r0, u0)) (hsz : ls.size = nL) (hR : rT_liveUnits.frames + 1 ≤ R.frames ∧ 8 + (4 + 11) + rT_liveUnits.locals ≤ R.locals) (hrest : (rest.map fun v => v.category).sum ≤ 8) (hdg : decode cc pc = .ok (.invokevirtual 146, 3)) (kk : ∀ (H1 : Heap) (locs1 : List Loc), ts_W tF D ca ad A s H1 locs1 u0 → W p l e R s m args below meth c H1 locs1 0 0 Q (F0 m (pc + 3) ls (.int r0 :: rest))) : W p l e R s m args below meth c H locs 0 0 Q (F0 m pc ls (.int x1 :: .ref (ad 0) :: rest)) :=
  ts_callVi (b := ad 0) (As := [.int x1]) hc hn hw (ct_liveUnits l hq) rfl (cwV 1 hc.2.2.2.2 (gd_V (by decide +kernel) (by decide +kernel) (by decide +kernel) (by decide +kernel) (code_T_liveUnits)) rfl rfl rfl (by decide +kernel) hR) (va_recv hw.2.2.2.1 hw.1 (ci := 1) (q0 := 0) rfl rfl) rfl hsz hrest hdg kk
end
def rT_cartridge : Room := { frames := 3, cells := 0, slots := 0, locals := 66 }
set_option maxHeartbeats 4000000 in
set_option maxRecDepth 100000 in
theorem ct_cartridge (l : Launch) {u : ts_S} {x1 x2 : Int32} {r0 : Int32} {u0 : ts_S} (hd : dt_cartridge u x1 x2 = some (r0, u0)) : ts_Ci tF l yT_cartridge (.code yT_cartridge bT_cartridge 3 (some .int) :: uW) rT_cartridge (fun ad => [.ref (ad 0), .int x1, .int x2]) u r0 u0 := by
  refine ts_in_i tF l (by decide) (fun p e s m args below meth c D ca ad A hc hn hr hlk hw => ?_)
  have hx := hc.1
  have hb := hc.2.1
  have hl := lv_entry ([.ref (ad 0), .int x1, .int x2]) (n := 3) (Nat.le_of_ble_eq_true rfl)
  rw [lg_entry_eq]
  generalize (lg_sl ([.ref (ad 0), .int x1, .int x2]) ++ List.replicate (3 - (lg_sl ([.ref (ad 0), .int x1, .int x2])).length) Slot.unset).toArray = ls at hl ⊢
  replace hl : lv_has ls 3 [(0, .ref (ad 0)), (1, .int x1), (2, .int x2)] := hl
  unfold dt_cartridge at hd
  refine lv_iload_n hx hb dT_cartridge_0 rfl (lv_at hl 1 rfl) ?_
  obtain ⟨r1, u1, hq, hd⟩ := ts_b_s hd
  refine cT_119 hc hn hw hq hl.1 ⟨Nat.le_of_ble_eq_true rfl, Nat.le_of_ble_eq_true rfl⟩ (Nat.le_of_ble_eq_true rfl) dT_cartridge_1 (fun H locs hw => ?_)
  refine lv_if_ne (tgt := 9) hx hb dT_cartridge_4 (by decide) (fun cq => ?_) (fun cq => ?_)
  · replace hd := ts_if_n cq hd
    refine lv_iload_n hx hb dT_cartridge_9 rfl (lv_at hl 2 rfl) ?_
    by_cases c0 : x2 = 0
    · replace hd := ts_if_p c0 hd
      refine lv_tableIn (tgt := 36) hx hb dT_cartridge_10 (by rw [c0]; decide) (by rw [c0]; decide) (by rw [c0]; rfl) (by decide) ?_
      refine lv_aload_n hx hb dT_cartridge_36 rfl (lv_at hl 0 rfl) ?_
      refine gT_61 hc hn hw dT_cartridge_37 ?_
      refine gT_131 hc hn hw dT_cartridge_40 ?_
      refine lv_iload_n hx hb dT_cartridge_43 rfl (lv_at hl 1 rfl) ?_
      obtain ⟨h, hd⟩ := ts_ix_s hd
      refine tt_l10 hc hw h dT_cartridge_44 ?_
      exact ts_iret hx hb hr hlk (vp_nar_int _) hw hd dT_cartridge_45
    replace hd := ts_if_n c0 hd
    by_cases c1 : x2 = 1
    · replace hd := ts_if_p c1 hd
      refine lv_tableIn (tgt := 46) hx hb dT_cartridge_10 (by rw [c1]; decide) (by rw [c1]; decide) (by rw [c1]; rfl) (by decide) ?_
      refine lv_aload_n hx hb dT_cartridge_46 rfl (lv_at hl 0 rfl) ?_
      refine lv_iload_n hx hb dT_cartridge_47 rfl (lv_at hl 1 rfl) ?_
      obtain ⟨r48, u48, hq, hd⟩ := ts_b_s hd
      refine cT_146 hc hn hw hq hl.1 ⟨Nat.le_of_ble_eq_true rfl, Nat.le_of_ble_eq_true rfl⟩ (Nat.le_of_ble_eq_true rfl) dT_cartridge_48 (fun H locs hw => ?_)
      exact ts_iret hx hb hr hlk (vp_nar_int _) hw hd dT_cartridge_51
    replace hd := ts_if_n c1 hd
    by_cases c2 : x2 = 2
    · replace hd := ts_if_p c2 hd
      refine lv_tableIn (tgt := 52) hx hb dT_cartridge_10 (by rw [c2]; decide) (by rw [c2]; decide) (by rw [c2]; rfl) (by decide) ?_
      refine lv_aload_n hx hb dT_cartridge_52 rfl (lv_at hl 0 rfl) ?_
      refine gT_61 hc hn hw dT_cartridge_53 ?_
      refine gT_149 hc hn hw dT_cartridge_56 ?_
      refine lv_iload_n hx hb dT_cartridge_59 rfl (lv_at hl 1 rfl) ?_
      refine lv_icmp_ne (tgt := 67) hx hb dT_cartridge_60 (by decide) (fun cq => ?_) (fun cq => ?_)
      · replace hd := ts_if_n cq hd
        refine lv_iconst (v := 0) hx hb dT_cartridge_67 (by decide) ?_
        exact ts_iret hx hb hr hlk (vp_nar_int _) hw hd dT_cartridge_68
      · replace hd := ts_if_p cq hd
        refine lv_iconst (v := 1) hx hb dT_cartridge_63 (by decide) ?_
        refine lv_goto (tgt := 68) hx hb dT_cartridge_64 (by decide) ?_
        exact ts_iret hx hb hr hlk (vp_nar_int _) hw hd dT_cartridge_68
    replace hd := ts_if_n c2 hd
    have n0 := lv_neT c0 (a := 0) (by decide)
    have n1 := lv_neT c1 (a := 1) (by decide)
    have n2 := lv_neT c2 (a := 2) (by decide)
    refine lv_tableOut (tgt := 69) hx hb dT_cartridge_10 (by omega) (by decide) ?_
    refine lv_iconst (v := (-1)) hx hb dT_cartridge_69 (by decide) ?_
    exact ts_iret hx hb hr hlk (vp_nar_int _) hw hd dT_cartridge_70
  · replace hd := ts_if_p cq hd
    refine lv_iconst (v := (-1)) hx hb dT_cartridge_7 (by decide) ?_
    exact ts_iret hx hb hr hlk (vp_nar_int _) hw hd dT_cartridge_8
def rT_count : Room := { frames := 2, cells := 0, slots := 0, locals := 43 }
set_option maxHeartbeats 4000000 in
set_option maxRecDepth 100000 in
theorem ct_count (l : Launch) {u : ts_S} {x1 : Int32} {r0 : Int32} {u0 : ts_S} (hd : dt_count u x1 = some (r0, u0)) : ts_Ci tF l yT_count (.code yT_count bT_count 2 (some .int) :: uW) rT_count (fun ad => [.ref (ad 0), .int x1]) u r0 u0 := by
  refine ts_in_i tF l (by decide) (fun p e s m args below meth c D ca ad A hc hn hr hlk hw => ?_)
  have hx := hc.1
  have hb := hc.2.1
  have hl := lv_entry ([.ref (ad 0), .int x1]) (n := 2) (Nat.le_of_ble_eq_true rfl)
  rw [lg_entry_eq]
  generalize (lg_sl ([.ref (ad 0), .int x1]) ++ List.replicate (2 - (lg_sl ([.ref (ad 0), .int x1])).length) Slot.unset).toArray = ls at hl ⊢
  replace hl : lv_has ls 2 [(0, .ref (ad 0)), (1, .int x1)] := hl
  unfold dt_count at hd
  refine lv_iload_n hx hb dT_count_0 rfl (lv_at hl 1 rfl) ?_
  by_cases c0 : x1 = 0
  · replace hd := ts_if_p c0 hd
    refine lv_tableIn (tgt := 32) hx hb dT_count_1 (by rw [c0]; decide) (by rw [c0]; decide) (by rw [c0]; rfl) (by decide) ?_
    refine lv_aload_n hx hb dT_count_32 rfl (lv_at hl 0 rfl) ?_
    obtain ⟨r33, u33, hq, hd⟩ := ts_b_s hd
    refine cT_105 hc hn hw hq hl.1 ⟨Nat.le_of_ble_eq_true rfl, Nat.le_of_ble_eq_true rfl⟩ (Nat.le_of_ble_eq_true rfl) dT_count_33 (fun H locs hw => ?_)
    exact ts_iret hx hb hr hlk (vp_nar_int _) hw hd dT_count_36
  replace hd := ts_if_n c0 hd
  by_cases c1 : x1 = 1
  · replace hd := ts_if_p c1 hd
    refine lv_tableIn (tgt := 37) hx hb dT_count_1 (by rw [c1]; decide) (by rw [c1]; decide) (by rw [c1]; rfl) (by decide) ?_
    refine lv_aload_n hx hb dT_count_37 rfl (lv_at hl 0 rfl) ?_
    refine gT_61 hc hn hw dT_count_38 ?_
    refine gT_152 hc hn hw dT_count_41 ?_
    exact ts_iret hx hb hr hlk (vp_nar_int _) hw hd dT_count_44
  replace hd := ts_if_n c1 hd
  by_cases c2 : x1 = 2
  · replace hd := ts_if_p c2 hd
    refine lv_tableIn (tgt := 45) hx hb dT_count_1 (by rw [c2]; decide) (by rw [c2]; decide) (by rw [c2]; rfl) (by decide) ?_
    refine lv_aload_n hx hb dT_count_45 rfl (lv_at hl 0 rfl) ?_
    refine gT_61 hc hn hw dT_count_46 ?_
    refine gT_155 hc hn hw dT_count_49 ?_
    exact ts_iret hx hb hr hlk (vp_nar_int _) hw hd dT_count_52
  replace hd := ts_if_n c2 hd
  by_cases c3 : x1 = 3
  · replace hd := ts_if_p c3 hd
    refine lv_tableIn (tgt := 53) hx hb dT_count_1 (by rw [c3]; decide) (by rw [c3]; decide) (by rw [c3]; rfl) (by decide) ?_
    refine lv_aload_n hx hb dT_count_53 rfl (lv_at hl 0 rfl) ?_
    obtain ⟨r54, u54, hq, hd⟩ := ts_b_s hd
    refine cT_113 hc hn hw hq hl.1 ⟨Nat.le_of_ble_eq_true rfl, Nat.le_of_ble_eq_true rfl⟩ (Nat.le_of_ble_eq_true rfl) dT_count_54 (fun H locs hw => ?_)
    exact ts_iret hx hb hr hlk (vp_nar_int _) hw hd dT_count_57
  replace hd := ts_if_n c3 hd
  have n0 := lv_neT c0 (a := 0) (by decide)
  have n1 := lv_neT c1 (a := 1) (by decide)
  have n2 := lv_neT c2 (a := 2) (by decide)
  have n3 := lv_neT c3 (a := 3) (by decide)
  refine lv_tableOut (tgt := 58) hx hb dT_count_1 (by omega) (by decide) ?_
  refine lv_iconst (v := (-1)) hx hb dT_count_58 (by decide) ?_
  exact ts_iret hx hb hr hlk (vp_nar_int _) hw hd dT_count_59
