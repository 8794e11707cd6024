def rM_in : Room := { frames := 0, cells := 0, slots := 0, locals := 0 }
set_option maxHeartbeats 4000000 in
set_option maxRecDepth 100000 in
theorem cm_in (l : Launch) {u : ts_S} {x0 x1 : Int32} {r0 : Int32} {u0 : ts_S} (hd : dm_in u x0 x1 = some (r0, u0)) : ts_Ci mF l yM_in (.code yM_in bM_in 2 (some .boolean) :: uW) rM_in (fun ad => [.int x0, .int x1]) u r0 u0 := by
  refine ts_in_i mF l (by decide) (fun p e s m args below meth c D ca ad A hc hn hr hlk hw => ?_)
  have hx := hc.1
  have hb := hc.2.1
  have hl := lv_entry ([.int x0, .int x1]) (n := 2) (Nat.le_of_ble_eq_true rfl)
  rw [lg_entry_eq]
  generalize (lg_sl ([.int x0, .int x1]) ++ List.replicate (2 - (lg_sl ([.int x0, .int x1])).length) Slot.unset).toArray = ls at hl ⊢
  replace hl : lv_has ls 2 [(0, .int x0), (1, .int x1)] := hl
  unfold dm_in at hd
  refine lv_iload_n hx hb dM_in_0 rfl (lv_at hl 0 rfl) ?_
  refine lv_if_lt (tgt := 13) hx hb dM_in_1 (by decide) (fun cq => ?_) (fun cq => ?_)
  · replace hd := ts_if_p cq hd
    refine lv_iconst (v := 0) hx hb dM_in_13 (by decide) ?_
    exact ts_iret hx hb hr hlk (by decide +kernel) hw hd dM_in_14
  · replace hd := ts_if_n cq hd
    refine lv_iload_n hx hb dM_in_4 rfl (lv_at hl 0 rfl) ?_
    refine lv_iload_n hx hb dM_in_5 rfl (lv_at hl 1 rfl) ?_
    refine lv_icmp_ge (tgt := 13) hx hb dM_in_6 (by decide) (fun cq => ?_) (fun cq => ?_)
    · replace hd := ts_if_p cq hd
      refine lv_iconst (v := 0) hx hb dM_in_13 (by decide) ?_
      exact ts_iret hx hb hr hlk (by decide +kernel) hw hd dM_in_14
    · replace hd := ts_if_n cq hd
      refine lv_iconst (v := 1) hx hb dM_in_9 (by decide) ?_
      refine lv_goto (tgt := 14) hx hb dM_in_10 (by decide) ?_
      exact ts_iret hx hb hr hlk (by decide +kernel) hw hd dM_in_14
section
variable {p : Program} {l : Launch} {e : Env} {R : Room} {s : State} {m : MethodId} {args : Array Value} {below : List Frame} {meth : Method} {c : Code} {H : Heap} {locs : List Loc} {Q : State → Prop} {cc : ByteArray} {pc nL : Nat} {ls : Array Slot} {rest : List Value} {D : va_G} {ca : Nat → ClassId} {ad : Nat → Nat} {A : Nat → Prop} {u : ts_S} {cells slots : Nat}
theorem cM_51 (hc : CallFix p m c cc nL s args uW RM) (hn : nx s) (hw : ts_W mF D ca ad A s H locs u) {x0 x1 : Int32} {r0 : Int32} {u0 : ts_S} (hq : dm_in u x0 x1 = some (r0, u0)) (hsz : ls.size = nL) (hR : rM_in.frames + 1 ≤ R.frames ∧ 8 + (2 + 11) + rM_in.locals ≤ R.locals) (hrest : (rest.map fun v => v.category).sum ≤ 8) (hdg : decode cc pc = .ok (.invokestatic 51, 3)) (kk : ∀ (H1 : Heap) (locs1 : List Loc), ts_W mF D ca ad A s H1 locs1 u0 → W p l e R s m args below meth c H1 locs1 0 0 Q (F0 m (pc + 3) ls (.int r0 :: rest))) : W p l e R s m args below meth c H locs 0 0 Q (F0 m pc ls (.int x1 :: .int x0 :: rest)) :=
  ts_callSi (As := [.int x0, .int x1]) hc hn hw (cm_in l hq) rfl (cwS 2 hc.2.2.2.2 (gd_S (by decide +kernel) (by decide +kernel) (by decide +kernel) (code_M_in)) rfl rfl rfl (by decide +kernel) hR) rfl hsz hrest hdg kk
end
def rM_oldest : Room := { frames := 0, cells := 0, slots := 0, locals := 0 }
set_option maxHeartbeats 4000000 in
set_option maxRecDepth 100000 in
theorem cm_oldest (l : Launch) {u : ts_S} {x1 : Int32} {r0 : Int32} {u0 : ts_S} (hd : dm_oldest u x1 = some (r0, u0)) : ts_Ci mF l yM_oldest (.code yM_oldest bM_oldest 4 (some .int) :: uW) rM_oldest (fun ad => [.ref (ad 0), .int x1]) u r0 u0 := by
  refine ts_in_i mF l (by decide) (fun p e s m args below meth c D ca ad A hc hn hr hlk hw => ?_)
  have hx := hc.1
  have hb := hc.2.1
  have hl := lv_entry ([.ref (ad 0), .int x1]) (n := 4) (Nat.le_of_ble_eq_true rfl)
  rw [lg_entry_eq]
  generalize (lg_sl ([.ref (ad 0), .int x1]) ++ List.replicate (4 - (lg_sl ([.ref (ad 0), .int x1])).length) Slot.unset).toArray = ls at hl ⊢
  replace hl : lv_has ls 4 [(0, .ref (ad 0)), (1, .int x1)] := hl
  have L4 : ∀ (n : Nat) (u : ts_S) (x1 x2 x3 : Int32) (H : Heap) (locs : List Loc) (ls : Array Slot), dm_oldest_4 n u x1 x2 x3 = some (r0, u0) → ts_W mF D ca ad A s H locs u → lv_has ls 4 [(0, .ref (ad 0)), (1, .int x1), (2, .int x2), (3, .int x3)] → W p l e rM_oldest s m args below meth c H locs 0 0 (MQ below (va_Qi (fun r v => r = r0 ∧ v = u0) (ts_post mF D ca ad A) A) args s 0 0 A) (F0 m 4 ls []) := by
    intro n
    induction n with
    | zero => intro u x1 x2 x3 H locs ls hd; cases (show (none : Option (Int32 × ts_S)) = some (r0, u0) from hd)
    | succ n4 ih4 =>
      intro u x1 x2 x3 H locs ls hd hw hl
      replace hd : dm_oldest_4_b (dm_oldest_4 n4) u x1 x2 x3 = some (r0, u0) := hd
      unfold dm_oldest_4_b at hd
      refine lv_iload_n hx hb dM_oldest_4 rfl (lv_at hl 3 rfl) ?_
      refine lv_bipush (v := 16) hx hb dM_oldest_5 (by decide) ?_
      refine lv_icmp_ge (tgt := 47) hx hb dM_oldest_7 (by decide) (fun cq => ?_) (fun cq => ?_)
      · replace hd := ts_if_p cq hd
        refine lv_iload_n hx hb dM_oldest_47 rfl (lv_at hl 2 rfl) ?_
        exact ts_iret hx hb hr hlk (vp_nar_int _) hw hd dM_oldest_48
      · replace hd := ts_if_n cq hd
        refine lv_aload_n hx hb dM_oldest_10 rfl (lv_at hl 0 rfl) ?_
        refine gM_7 hc hn hw dM_oldest_11 ?_
        refine lv_iload_n hx hb dM_oldest_14 rfl (lv_at hl 3 rfl) ?_
        obtain ⟨h, hd⟩ := ts_ix_s hd
        refine mm_l2 hc hw h dM_oldest_15 ?_
        refine lv_iload_n hx hb dM_oldest_16 rfl (lv_at hl 1 rfl) ?_
        refine lv_icmp_ne (tgt := 41) hx hb dM_oldest_17 (by decide) (fun cq => ?_) (fun cq => ?_)
        · replace hd := ts_if_n cq hd
          refine lv_iinc (v := (x3 + 1)) (lv' := [(3, .int (x3 + 1)), (0, .ref (ad 0)), (1, .int x1), (2, .int x2)]) hx hb dM_oldest_41 hl (k := 3) rfl rfl (by decide) rfl (fun ls hl => ?_)
          refine lv_goto (tgt := 4) hx hb dM_oldest_44 (by decide) ?_
          exact ih4 u x1 x2 (x3 + 1) _ _ _ hd hw (lv_sub hl [1, 2, 3, 0] rfl)
        · replace hd := ts_if_p cq hd
          refine lv_iload_n hx hb dM_oldest_20 rfl (lv_at hl 2 rfl) ?_
          refine lv_if_lt (tgt := 39) hx hb dM_oldest_21 (by decide) (fun cq => ?_) (fun cq => ?_)
          · replace hd := ts_if_p cq hd
            refine lv_iload_n hx hb dM_oldest_39 rfl (lv_at hl 3 rfl) ?_
            refine lv_istore_n (lv' := [(2, .int x3), (0, .ref (ad 0)), (1, .int x1), (3, .int x3)]) hx hb dM_oldest_40 rfl hl (by decide) rfl (fun ls hl => ?_)
            refine lv_iinc (v := (x3 + 1)) (lv' := [(3, .int (x3 + 1)), (2, .int x3), (0, .ref (ad 0)), (1, .int x1)]) hx hb dM_oldest_41 hl (k := 3) rfl rfl (by decide) rfl (fun ls hl => ?_)
            refine lv_goto (tgt := 4) hx hb dM_oldest_44 (by decide) ?_
            exact ih4 u x1 x3 (x3 + 1) _ _ _ hd hw (lv_sub hl [2, 3, 1, 0] rfl)
          · replace hd := ts_if_n cq hd
            refine lv_aload_n hx hb dM_oldest_24 rfl (lv_at hl 0 rfl) ?_
            refine gM_19 hc hn hw dM_oldest_25 ?_
            refine lv_iload_n hx hb dM_oldest_28 rfl (lv_at hl 3 rfl) ?_
            obtain ⟨h, hd⟩ := ts_ix_s hd
            refine mm_l8 hc hw h dM_oldest_29 ?_
            refine lv_aload_n hx hb dM_oldest_30 rfl (lv_at hl 0 rfl) ?_
            refine gM_19 hc hn hw dM_oldest_31 ?_
            refine lv_iload_n hx hb dM_oldest_34 rfl (lv_at hl 2 rfl) ?_
            obtain ⟨h, hd⟩ := ts_ix_s hd
            refine mm_l8 hc hw h dM_oldest_35 ?_
            refine lv_icmp_ge (tgt := 41) hx hb dM_oldest_36 (by decide) (fun cq => ?_) (fun cq => ?_)
            · replace hd := ts_if_p cq hd
              refine lv_iinc (v := (x3 + 1)) (lv' := [(3, .int (x3 + 1)), (0, .ref (ad 0)), (1, .int x1), (2, .int x2)]) hx hb dM_oldest_41 hl (k := 3) rfl rfl (by decide) rfl (fun ls hl => ?_)
              refine lv_goto (tgt := 4) hx hb dM_oldest_44 (by decide) ?_
              exact ih4 u x1 x2 (x3 + 1) _ _ _ hd hw (lv_sub hl [1, 2, 3, 0] rfl)
            · replace hd := ts_if_n cq hd
              refine lv_iload_n hx hb dM_oldest_39 rfl (lv_at hl 3 rfl) ?_
              refine lv_istore_n (lv' := [(2, .int x3), (0, .ref (ad 0)), (1, .int x1), (3, .int x3)]) hx hb dM_oldest_40 rfl hl (by decide) rfl (fun ls hl => ?_)
              refine lv_iinc (v := (x3 + 1)) (lv' := [(3, .int (x3 + 1)), (2, .int x3), (0, .ref (ad 0)), (1, .int x1)]) hx hb dM_oldest_41 hl (k := 3) rfl rfl (by decide) rfl (fun ls hl => ?_)
              refine lv_goto (tgt := 4) hx hb dM_oldest_44 (by decide) ?_
              exact ih4 u x1 x3 (x3 + 1) _ _ _ hd hw (lv_sub hl [2, 3, 1, 0] rfl)
  unfold dm_oldest at hd
  refine lv_iconst (v := (-1)) hx hb dM_oldest_0 (by decide) ?_
  refine lv_istore_n (lv' := [(2, .int (-1)), (0, .ref (ad 0)), (1, .int x1)]) hx hb dM_oldest_1 rfl hl (by decide) rfl (fun ls hl => ?_)
  refine lv_iconst (v := 0) hx hb dM_oldest_2 (by decide) ?_
  refine lv_istore_n (lv' := [(3, .int 0), (2, .int (-1)), (0, .ref (ad 0)), (1, .int x1)]) hx hb dM_oldest_3 rfl hl (by decide) rfl (fun ls hl => ?_)
  exact L4 40 u x1 (-1) 0 _ _ _ hd hw (lv_sub hl [2, 3, 1, 0] rfl)
section
variable {p : Program} {l : Launch} {e : Env} {R : Room} {s : State} {m : MethodId} {args : Array Value} {below : List Frame} {meth : Method} {c : Code} {H : Heap} {locs : List Loc} {Q : State → Prop} {cc : ByteArray} {pc nL : Nat} {ls : Array Slot} {rest : List Value} {D : va_G} {ca : Nat → ClassId} {ad : Nat → Nat} {A : Nat → Prop} {u : ts_S} {cells slots : Nat}
theorem cM_62 (hc : CallFix p m c cc nL s args uW RM) (hn : nx s) (hw : ts_W mF D ca ad A s H locs u) {x1 : Int32} {r0 : Int32} {u0 : ts_S} (hq : dm_oldest u x1 = some (r0, u0)) (hsz : ls.size = nL) (hR : rM_oldest.frames + 1 ≤ R.frames ∧ 8 + (4 + 11) + rM_oldest.locals ≤ R.locals) (hrest : (rest.map fun v => v.category).sum ≤ 8) (hdg : decode cc pc = .ok (.invokevirtual 62, 3)) (kk : ∀ (H1 : Heap) (locs1 : List Loc), ts_W mF D ca ad A s H1 locs1 u0 → W p l e R s m args below meth c H1 locs1 0 0 Q (F0 m (pc + 3) ls (.int r0 :: rest))) : W p l e R s m args below meth c H locs 0 0 Q (F0 m pc ls (.int x1 :: .ref (ad 0) :: rest)) :=
  ts_callVi (b := ad 0) (As := [.int x1]) hc hn hw (cm_oldest l hq) rfl (cwV 1 hc.2.2.2.2 (gd_V (by decide +kernel) (by decide +kernel) (by decide +kernel) (by decide +kernel) (code_M_oldest)) rfl rfl rfl (by decide +kernel) hR) (va_recv hw.2.2.2.1 hw.1 (ci := 2) (q0 := 0) rfl rfl) rfl hsz hrest hdg kk
end
def rM_taken : Room := { frames := 0, cells := 0, slots := 0, locals := 0 }
set_option maxHeartbeats 4000000 in
set_option maxRecDepth 100000 in
theorem cm_taken (l : Launch) {u : ts_S} {r0 : Int32} {u0 : ts_S} (hd : dm_taken u = some (r0, u0)) : ts_Ci mF l yM_taken (.code yM_taken bM_taken 3 (some .int) :: uW) rM_taken (fun ad => [.ref (ad 0)]) u r0 u0 := by
  refine ts_in_i mF l (by decide) (fun p e s m args below meth c D ca ad A hc hn hr hlk hw => ?_)
  have hx := hc.1
  have hb := hc.2.1
  have hl := lv_entry ([.ref (ad 0)]) (n := 3) (Nat.le_of_ble_eq_true rfl)
  rw [lg_entry_eq]
  generalize (lg_sl ([.ref (ad 0)]) ++ List.replicate (3 - (lg_sl ([.ref (ad 0)])).length) Slot.unset).toArray = ls at hl ⊢
  replace hl : lv_has ls 3 [(0, .ref (ad 0))] := hl
  have L4 : ∀ (n : Nat) (u : ts_S) (x1 x2 : Int32) (H : Heap) (locs : List Loc) (ls : Array Slot), dm_taken_4 n u x1 x2 = some (r0, u0) → ts_W mF D ca ad A s H locs u → lv_has ls 3 [(0, .ref (ad 0)), (1, .int x1), (2, .int x2)] → W p l e rM_taken s m args below meth c H locs 0 0 (MQ below (va_Qi (fun r v => r = r0 ∧ v = u0) (ts_post mF D ca ad A) A) args s 0 0 A) (F0 m 4 ls []) := by
    intro n
    induction n with
    | zero => intro u x1 x2 H locs ls hd; cases (show (none : Option (Int32 × ts_S)) = some (r0, u0) from hd)
    | succ n4 ih4 =>
      intro u x1 x2 H locs ls hd hw hl
      replace hd : dm_taken_4_b (dm_taken_4 n4) u x1 x2 = some (r0, u0) := hd
      unfold dm_taken_4_b at hd
      refine lv_iload_n hx hb dM_taken_4 rfl (lv_at hl 2 rfl) ?_
      refine lv_bipush (v := 16) hx hb dM_taken_5 (by decide) ?_
      refine lv_icmp_ge (tgt := 45) hx hb dM_taken_7 (by decide) (fun cq => ?_) (fun cq => ?_)
      · replace hd := ts_if_p cq hd
        refine lv_iload_n hx hb dM_taken_45 rfl (lv_at hl 1 rfl) ?_
        exact ts_iret hx hb hr hlk (vp_nar_int _) hw hd dM_taken_46
      · replace hd := ts_if_n cq hd
        refine lv_aload_n hx hb dM_taken_10 rfl (lv_at hl 0 rfl) ?_
        refine gM_7 hc hn hw dM_taken_11 ?_
        refine lv_iload_n hx hb dM_taken_14 rfl (lv_at hl 2 rfl) ?_
        obtain ⟨h, hd⟩ := ts_ix_s hd
        refine mm_l2 hc hw h dM_taken_15 ?_
        refine lv_iconst (v := 1) hx hb dM_taken_16 (by decide) ?_
        refine lv_icmp_eq (tgt := 30) hx hb dM_taken_17 (by decide) (fun cq => ?_) (fun cq => ?_)
        · replace hd := ts_if_p cq hd
          refine lv_iload_n hx hb dM_taken_30 rfl (lv_at hl 1 rfl) ?_
          refine lv_aload_n hx hb dM_taken_31 rfl (lv_at hl 0 rfl) ?_
          refine gM_13 hc hn hw dM_taken_32 ?_
          refine lv_iload_n hx hb dM_taken_35 rfl (lv_at hl 2 rfl) ?_
          obtain ⟨h, hd⟩ := ts_ix_s hd
          refine mm_l3 hc hw h dM_taken_36 ?_
          refine lv_iadd hx hb dM_taken_37 ?_
          refine lv_istore_n (lv' := [(1, .int (x1 + (u.2 3 x2.toNatClampNeg))), (0, .ref (ad 0)), (2, .int x2)]) hx hb dM_taken_38 rfl hl (by decide) rfl (fun ls hl => ?_)
          refine lv_iinc (v := (x2 + 1)) (lv' := [(2, .int (x2 + 1)), (1, .int (x1 + (u.2 3 x2.toNatClampNeg))), (0, .ref (ad 0))]) hx hb dM_taken_39 hl (k := 2) rfl rfl (by decide) rfl (fun ls hl => ?_)
          refine lv_goto (tgt := 4) hx hb dM_taken_42 (by decide) ?_
          exact ih4 u (x1 + (u.2 3 x2.toNatClampNeg)) (x2 + 1) _ _ _ hd hw (lv_sub hl [2, 1, 0] rfl)
        · replace hd := ts_if_n cq hd
          refine lv_aload_n hx hb dM_taken_20 rfl (lv_at hl 0 rfl) ?_
          refine gM_7 hc hn hw dM_taken_21 ?_
          refine lv_iload_n hx hb dM_taken_24 rfl (lv_at hl 2 rfl) ?_
          obtain ⟨h, hd⟩ := ts_ix_s hd
          refine mm_l2 hc hw h dM_taken_25 ?_
          refine lv_iconst (v := 2) hx hb dM_taken_26 (by decide) ?_
          refine lv_icmp_ne (tgt := 39) hx hb dM_taken_27 (by decide) (fun cq => ?_) (fun cq => ?_)
          · replace hd := ts_if_n cq hd
            refine lv_iinc (v := (x2 + 1)) (lv' := [(2, .int (x2 + 1)), (0, .ref (ad 0)), (1, .int x1)]) hx hb dM_taken_39 hl (k := 2) rfl rfl (by decide) rfl (fun ls hl => ?_)
            refine lv_goto (tgt := 4) hx hb dM_taken_42 (by decide) ?_
            exact ih4 u x1 (x2 + 1) _ _ _ hd hw (lv_sub hl [1, 2, 0] rfl)
          · replace hd := ts_if_p cq hd
            refine lv_iload_n hx hb dM_taken_30 rfl (lv_at hl 1 rfl) ?_
            refine lv_aload_n hx hb dM_taken_31 rfl (lv_at hl 0 rfl) ?_
            refine gM_13 hc hn hw dM_taken_32 ?_
            refine lv_iload_n hx hb dM_taken_35 rfl (lv_at hl 2 rfl) ?_
            obtain ⟨h, hd⟩ := ts_ix_s hd
            refine mm_l3 hc hw h dM_taken_36 ?_
            refine lv_iadd hx hb dM_taken_37 ?_
            refine lv_istore_n (lv' := [(1, .int (x1 + (u.2 3 x2.toNatClampNeg))), (0, .ref (ad 0)), (2, .int x2)]) hx hb dM_taken_38 rfl hl (by decide) rfl (fun ls hl => ?_)
            refine lv_iinc (v := (x2 + 1)) (lv' := [(2, .int (x2 + 1)), (1, .int (x1 + (u.2 3 x2.toNatClampNeg))), (0, .ref (ad 0))]) hx hb dM_taken_39 hl (k := 2) rfl rfl (by decide) rfl (fun ls hl => ?_)
            refine lv_goto (tgt := 4) hx hb dM_taken_42 (by decide) ?_
            exact ih4 u (x1 + (u.2 3 x2.toNatClampNeg)) (x2 + 1) _ _ _ hd hw (lv_sub hl [2, 1, 0] rfl)
  unfold dm_taken at hd
  refine lv_iconst (v := 0) hx hb dM_taken_0 (by decide) ?_
  refine lv_istore_n (lv' := [(1, .int 0), (0, .ref (ad 0))]) hx hb dM_taken_1 rfl hl (by decide) rfl (fun ls hl => ?_)
  refine lv_iconst (v := 0) hx hb dM_taken_2 (by decide) ?_
  refine lv_istore_n (lv' := [(2, .int 0), (1, .int 0), (0, .ref (ad 0))]) hx hb dM_taken_3 rfl hl (by decide) rfl (fun ls hl => ?_)
  exact L4 40 u 0 0 _ _ _ hd hw (lv_sub hl [2, 1, 0] rfl)
section
variable {p : Program} {l : Launch} {e : Env} {R : Room} {s : State} {m : MethodId} {args : Array Value} {below : List Frame} {meth : Method} {c : Code} {H : Heap} {locs : List Loc} {Q : State → Prop} {cc : ByteArray} {pc nL : Nat} {ls : Array Slot} {rest : List Value} {D : va_G} {ca : Nat → ClassId} {ad : Nat → Nat} {A : Nat → Prop} {u : ts_S} {cells slots : Nat}
theorem cM_58 (hc : CallFix p m c cc nL s args uW RM) (hn : nx s) (hw : ts_W mF D ca ad A s H locs u) {r0 : Int32} {u0 : ts_S} (hq : dm_taken u = some (r0, u0)) (hsz : ls.size = nL) (hR : rM_taken.frames + 1 ≤ R.frames ∧ 8 + (3 + 11) + rM_taken.locals ≤ R.locals) (hrest : (rest.map fun v => v.category).sum ≤ 8) (hdg : decode cc pc = .ok (.invokevirtual 58, 3)) (kk : ∀ (H1 : Heap) (locs1 : List Loc), ts_W mF D ca ad A s H1 locs1 u0 → W p l e R s m args below meth c H1 locs1 0 0 Q (F0 m (pc + 3) ls (.int r0 :: rest))) : W p l e R s m args below meth c H locs 0 0 Q (F0 m pc ls (.ref (ad 0) :: rest)) :=
  ts_callVi (b := ad 0) (As := []) hc hn hw (cm_taken l hq) rfl (cwV 0 hc.2.2.2.2 (gd_V (by decide +kernel) (by decide +kernel) (by decide +kernel) (by decide +kernel) (code_M_taken)) rfl rfl rfl (by decide +kernel) hR) (va_recv hw.2.2.2.1 hw.1 (ci := 2) (q0 := 0) rfl rfl) rfl hsz hrest hdg kk
end
def rM_makeRoom : Room := { frames := 1, cells := 0, slots := 0, locals := 23 }
set_option maxHeartbeats 4000000 in
set_option maxRecDepth 100000 in
theorem cm_makeRoom (l : Launch) {u : ts_S} {x1 : Int32} {r0 : Int32} {u0 : ts_S} (hd : dm_makeRoom u x1 = some (r0, u0)) : ts_Ci mF l yM_makeRoom (.code yM_makeRoom bM_makeRoom 4 (some .boolean) :: uW) rM_makeRoom (fun ad => [.ref (ad 0), .int x1]) u r0 u0 := by
  refine ts_in_i mF l (by decide) (fun p e s m args below meth c D ca ad A hc hn hr hlk hw => ?_)
  have hx := hc.1
  have hb := hc.2.1
  have hl := lv_entry ([.ref (ad 0), .int x1]) (n := 4) (Nat.le_of_ble_eq_true rfl)
  rw [lg_entry_eq]
  generalize (lg_sl ([.ref (ad 0), .int x1]) ++ List.replicate (4 - (lg_sl ([.ref (ad 0), .int x1])).length) Slot.unset).toArray = ls at hl ⊢
  replace hl : lv_has ls 4 [(0, .ref (ad 0)), (1, .int x1)] := hl
  have L2 : ∀ (n : Nat) (u : ts_S) (x1 x2 : Int32) (H : Heap) (locs : List Loc) (ls : Array Slot), dm_makeRoom_2 n u x1 x2 = some (r0, u0) → ts_W mF D ca ad A s H locs u → lv_has ls 4 [(0, .ref (ad 0)), (1, .int x1), (2, .int x2)] → W p l e rM_makeRoom s m args below meth c H locs 0 0 (MQ below (va_Qi (fun r v => r = r0 ∧ v = u0) (ts_post mF D ca ad A) A) args s 0 0 A) (F0 m 2 ls []) := by
    intro n
    induction n with
    | zero => intro u x1 x2 H locs ls hd; cases (show (none : Option (Int32 × ts_S)) = some (r0, u0) from hd)
    | succ n2 ih2 =>
      intro u x1 x2 H locs ls hd hw hl
      replace hd : dm_makeRoom_2_b (dm_makeRoom_2 n2) u x1 x2 = some (r0, u0) := hd
      unfold dm_makeRoom_2_b at hd
      refine lv_iload_n hx hb dM_makeRoom_2 rfl (lv_at hl 2 rfl) ?_
      refine lv_bipush (v := 16) hx hb dM_makeRoom_3 (by decide) ?_
      refine lv_icmp_ge (tgt := 44) hx hb dM_makeRoom_5 (by decide) (fun cq => ?_) (fun cq => ?_)
      · replace hd := ts_if_p cq hd
        refine lv_aload_n hx hb dM_makeRoom_44 rfl (lv_at hl 0 rfl) ?_
        refine gM_45 hc hn hw dM_makeRoom_45 ?_
        refine lv_aload_n hx hb dM_makeRoom_48 rfl (lv_at hl 0 rfl) ?_
        obtain ⟨r49, u49, hq, hd⟩ := ts_b_s hd
        refine cM_58 hc hn hw hq hl.1 ⟨Nat.le_of_ble_eq_true rfl, Nat.le_of_ble_eq_true rfl⟩ (Nat.le_of_ble_eq_true rfl) dM_makeRoom_49 (fun H locs hw => ?_)
        refine lv_isub hx hb dM_makeRoom_52 ?_
        refine lv_iload_n hx hb dM_makeRoom_53 rfl (lv_at hl 1 rfl) ?_
        refine lv_icmp_lt (tgt := 61) hx hb dM_makeRoom_54 (by decide) (fun cq => ?_) (fun cq => ?_)
        · replace hd := ts_if_p cq hd
          refine lv_iconst (v := 0) hx hb dM_makeRoom_61 (by decide) ?_
          exact ts_iret hx hb hr hlk (by decide +kernel) hw hd dM_makeRoom_62
        · replace hd := ts_if_n cq hd
          refine lv_iconst (v := 1) hx hb dM_makeRoom_57 (by decide) ?_
          refine lv_goto (tgt := 62) hx hb dM_makeRoom_58 (by decide) ?_
          exact ts_iret hx hb hr hlk (by decide +kernel) hw hd dM_makeRoom_62
      · replace hd := ts_if_n cq hd
        refine lv_aload_n hx hb dM_makeRoom_8 rfl (lv_at hl 0 rfl) ?_
        refine gM_45 hc hn hw dM_makeRoom_9 ?_
        refine lv_aload_n hx hb dM_makeRoom_12 rfl (lv_at hl 0 rfl) ?_
        obtain ⟨r13, u13, hq, hd⟩ := ts_b_s hd
        refine cM_58 hc hn hw hq hl.1 ⟨Nat.le_of_ble_eq_true rfl, Nat.le_of_ble_eq_true rfl⟩ (Nat.le_of_ble_eq_true rfl) dM_makeRoom_13 (fun H locs hw => ?_)
        refine lv_isub hx hb dM_makeRoom_16 ?_
        refine lv_iload_n hx hb dM_makeRoom_17 rfl (lv_at hl 1 rfl) ?_
        refine lv_icmp_ge (tgt := 44) hx hb dM_makeRoom_18 (by decide) (fun cq => ?_) (fun cq => ?_)
        · replace hd := ts_if_p cq hd
          refine lv_aload_n hx hb dM_makeRoom_44 rfl (lv_at hl 0 rfl) ?_
          refine gM_45 hc hn hw dM_makeRoom_45 ?_
          refine lv_aload_n hx hb dM_makeRoom_48 rfl (lv_at hl 0 rfl) ?_
          obtain ⟨r49, u49, hq, hd⟩ := ts_b_s hd
          refine cM_58 hc hn hw hq hl.1 ⟨Nat.le_of_ble_eq_true rfl, Nat.le_of_ble_eq_true rfl⟩ (Nat.le_of_ble_eq_true rfl) dM_makeRoom_49 (fun H locs hw => ?_)
          refine lv_isub hx hb dM_makeRoom_52 ?_
          refine lv_iload_n hx hb dM_makeRoom_53 rfl (lv_at hl 1 rfl) ?_
          refine lv_icmp_lt (tgt := 61) hx hb dM_makeRoom_54 (by decide) (fun cq => ?_) (fun cq => ?_)
          · replace hd := ts_if_p cq hd
            refine lv_iconst (v := 0) hx hb dM_makeRoom_61 (by decide) ?_
            exact ts_iret hx hb hr hlk (by decide +kernel) hw hd dM_makeRoom_62
          · replace hd := ts_if_n cq hd
            refine lv_iconst (v := 1) hx hb dM_makeRoom_57 (by decide) ?_
            refine lv_goto (tgt := 62) hx hb dM_makeRoom_58 (by decide) ?_
            exact ts_iret hx hb hr hlk (by decide +kernel) hw hd dM_makeRoom_62
        · replace hd := ts_if_n cq hd
          refine lv_aload_n hx hb dM_makeRoom_21 rfl (lv_at hl 0 rfl) ?_
          refine lv_iconst (v := 2) hx hb dM_makeRoom_22 (by decide) ?_
          obtain ⟨r23, u23, hq, hd⟩ := ts_b_s hd
          refine cM_62 hc hn hw hq hl.1 ⟨Nat.le_of_ble_eq_true rfl, Nat.le_of_ble_eq_true rfl⟩ (Nat.le_of_ble_eq_true rfl) dM_makeRoom_23 (fun H locs hw => ?_)
          refine lv_istore_n (lv' := [(3, .int r23), (0, .ref (ad 0)), (1, .int x1), (2, .int x2)]) hx hb dM_makeRoom_26 rfl hl (by decide) rfl (fun ls hl => ?_)
          refine lv_iload_n hx hb dM_makeRoom_27 rfl (lv_at hl 0 rfl) ?_
          refine lv_if_lt (tgt := 38) hx hb dM_makeRoom_28 (by decide) (fun cq => ?_) (fun cq => ?_)
          · replace hd := ts_if_p cq hd
            refine lv_iinc (v := (x2 + 1)) (lv' := [(2, .int (x2 + 1)), (3, .int r23), (0, .ref (ad 0)), (1, .int x1)]) hx hb dM_makeRoom_38 hl (k := 3) rfl rfl (by decide) rfl (fun ls hl => ?_)
            refine lv_goto (tgt := 2) hx hb dM_makeRoom_41 (by decide) ?_
            exact ih2 u23 x1 (x2 + 1) _ _ _ hd hw (lv_sub hl [2, 3, 0] rfl)
          · replace hd := ts_if_n cq hd
            refine lv_aload_n hx hb dM_makeRoom_31 rfl (lv_at hl 1 rfl) ?_
            refine gM_7 hc hn hw dM_makeRoom_32 ?_
            refine lv_iload_n hx hb dM_makeRoom_35 rfl (lv_at hl 0 rfl) ?_
            refine lv_iconst (v := 3) hx hb dM_makeRoom_36 (by decide) ?_
            obtain ⟨h, hd⟩ := ts_ix_s hd
            refine mm_s2 hc hw h dM_makeRoom_37 (fun H locs hw => ?_)
            refine lv_iinc (v := (x2 + 1)) (lv' := [(2, .int (x2 + 1)), (3, .int r23), (0, .ref (ad 0)), (1, .int x1)]) hx hb dM_makeRoom_38 hl (k := 3) rfl rfl (by decide) rfl (fun ls hl => ?_)
            refine lv_goto (tgt := 2) hx hb dM_makeRoom_41 (by decide) ?_
            exact ih2 (ts_a 2 r23.toNatClampNeg 3 u23) x1 (x2 + 1) _ _ _ hd hw (lv_sub hl [2, 3, 0] rfl)
  unfold dm_makeRoom at hd
  refine lv_iconst (v := 0) hx hb dM_makeRoom_0 (by decide) ?_
  refine lv_istore_n (lv' := [(2, .int 0), (0, .ref (ad 0)), (1, .int x1)]) hx hb dM_makeRoom_1 rfl hl (by decide) rfl (fun ls hl => ?_)
  exact L2 40 u x1 0 _ _ _ hd hw (lv_sub hl [1, 2, 0] rfl)
section
variable {p : Program} {l : Launch} {e : Env} {R : Room} {s : State} {m : MethodId} {args : Array Value} {below : List Frame} {meth : Method} {c : Code} {H : Heap} {locs : List Loc} {Q : State → Prop} {cc : ByteArray} {pc nL : Nat} {ls : Array Slot} {rest : List Value} {D : va_G} {ca : Nat → ClassId} {ad : Nat → Nat} {A : Nat → Prop} {u : ts_S} {cells slots : Nat}
theorem cM_72 (hc : CallFix p m c cc nL s args uW RM) (hn : nx s) (hw : ts_W mF D ca ad A s H locs u) {x1 : Int32} {r0 : Int32} {u0 : ts_S} (hq : dm_makeRoom u x1 = some (r0, u0)) (hsz : ls.size = nL) (hR : rM_makeRoom.frames + 1 ≤ R.frames ∧ 8 + (4 + 11) + rM_makeRoom.locals ≤ R.locals) (hrest : (rest.map fun v => v.category).sum ≤ 8) (hdg : decode cc pc = .ok (.invokevirtual 72, 3)) (kk : ∀ (H1 : Heap) (locs1 : List Loc), ts_W mF D ca ad A s H1 locs1 u0 → W p l e R s m args below meth c H1 locs1 0 0 Q (F0 m (pc + 3) ls (.int r0 :: rest))) : W p l e R s m args below meth c H locs 0 0 Q (F0 m pc ls (.int x1 :: .ref (ad 0) :: rest)) :=
  ts_callVi (b := ad 0) (As := [.int x1]) hc hn hw (cm_makeRoom l hq) rfl (cwV 1 hc.2.2.2.2 (gd_V (by decide +kernel) (by decide +kernel) (by decide +kernel) (by decide +kernel) (code_M_makeRoom)) rfl rfl rfl (by decide +kernel) hR) (va_recv hw.2.2.2.1 hw.1 (ci := 2) (q0 := 0) rfl rfl) rfl hsz hrest hdg kk
end
def rM_use : Room := { frames := 0, cells := 0, slots := 0, locals := 0 }
set_option maxHeartbeats 4000000 in
set_option maxRecDepth 100000 in
theorem cm_use (l : Launch) {u : ts_S} {x1 : Int32} {r0 : Int32} {u0 : ts_S} (hd : dm_use u x1 = some (r0, u0)) : ts_Cv mF l yM_use (.code yM_use bM_use 2 none :: uW) rM_use (fun ad => [.ref (ad 0), .int x1]) u u0 := by
  refine ts_in_v mF l (by decide) (fun p e s m args below meth c D ca ad A hc hn hr hlk hw => ?_)
  have hx := hc.1
  have hb := hc.2.1
  have hl := lv_entry ([.ref (ad 0), .int x1]) (n := 2) (Nat.le_of_ble_eq_true rfl)
  rw [lg_entry_eq]
  generalize (lg_sl ([.ref (ad 0), .int x1]) ++ List.replicate (2 - (lg_sl ([.ref (ad 0), .int x1])).length) Slot.unset).toArray = ls at hl ⊢
  replace hl : lv_has ls 2 [(0, .ref (ad 0)), (1, .int x1)] := hl
  unfold dm_use at hd
  refine lv_aload_n hx hb dM_use_0 rfl (lv_at hl 0 rfl) ?_
  refine lv_dup hx hb dM_use_1 rfl ?_
  refine gM_55 hc hn hw dM_use_2 ?_
  refine lv_iconst (v := 1) hx hb dM_use_5 (by decide) ?_
  refine lv_iadd hx hb dM_use_6 ?_
  refine pM_55 hc hn hw dM_use_7 (fun H locs hw => ?_)
  refine lv_aload_n hx hb dM_use_10 rfl (lv_at hl 0 rfl) ?_
  refine gM_19 hc hn hw dM_use_11 ?_
  refine lv_iload_n hx hb dM_use_14 rfl (lv_at hl 1 rfl) ?_
  refine lv_aload_n hx hb dM_use_15 rfl (lv_at hl 0 rfl) ?_
  refine gM_55 hc hn hw dM_use_16 ?_
  obtain ⟨h, hd⟩ := ts_ix_s hd
  refine mm_s8 hc hw h dM_use_19 (fun H locs hw => ?_)
  exact ts_vret hx hb hr hlk hw hd dM_use_20
section
variable {p : Program} {l : Launch} {e : Env} {R : Room} {s : State} {m : MethodId} {args : Array Value} {below : List Frame} {meth : Method} {c : Code} {H : Heap} {locs : List Loc} {Q : State → Prop} {cc : ByteArray} {pc nL : Nat} {ls : Array Slot} {rest : List Value} {D : va_G} {ca : Nat → ClassId} {ad : Nat → Nat} {A : Nat → Prop} {u : ts_S} {cells slots : Nat}
theorem cM_80 (hc : CallFix p m c cc nL s args uW RM) (hn : nx s) (hw : ts_W mF D ca ad A s H locs u) {x1 : Int32} {r0 : Int32} {u0 : ts_S} (hq : dm_use u x1 = some (r0, u0)) (hsz : ls.size = nL) (hR : rM_use.frames + 1 ≤ R.frames ∧ 8 + (2 + 11) + rM_use.locals ≤ R.locals) (hrest : (rest.map fun v => v.category).sum ≤ 8) (hdg : decode cc pc = .ok (.invokevirtual 80, 3)) (kk : ∀ (H1 : Heap) (locs1 : List Loc), ts_W mF D ca ad A s H1 locs1 u0 → W p l e R s m args below meth c H1 locs1 0 0 Q (F0 m (pc + 3) ls rest)) : W p l e R s m args below meth c H locs 0 0 Q (F0 m pc ls (.int x1 :: .ref (ad 0) :: rest)) :=
  ts_callVv (b := ad 0) (As := [.int x1]) hc hn hw (cm_use l hq) rfl (cwV 1 hc.2.2.2.2 (gd_V (by decide +kernel) (by decide +kernel) (by decide +kernel) (by decide +kernel) (code_M_use)) rfl rfl rfl (by decide +kernel) hR) (va_recv hw.2.2.2.1 hw.1 (ci := 2) (q0 := 0) rfl rfl) rfl hsz hrest hdg kk
end
def rM_create : Room := { frames := 2, cells := 0, slots := 0, locals := 46 }
set_option maxHeartbeats 4000000 in
set_option maxRecDepth 100000 in
theorem cm_create (l : Launch) {u : ts_S} {x1 x2 : Int32} {r0 : Int32} {u0 : ts_S} (hd : dm_create u x1 x2 = some (r0, u0)) : ts_Ci mF l yM_create (.code yM_create bM_create 4 (some .int) :: uW) rM_create (fun ad => [.ref (ad 0), .int x1, .int x2]) u r0 u0 := by
  refine ts_in_i mF l (by decide) (fun p e s m args below meth c D ca ad A hc hn hr hlk hw => ?_)
  have hx := hc.1
  have hb := hc.2.1
  have hl := lv_entry ([.ref (ad 0), .int x1, .int x2]) (n := 4) (Nat.le_of_ble_eq_true rfl)
  rw [lg_entry_eq]
  generalize (lg_sl ([.ref (ad 0), .int x1, .int x2]) ++ List.replicate (4 - (lg_sl ([.ref (ad 0), .int x1, .int x2])).length) Slot.unset).toArray = ls at hl ⊢
  replace hl : lv_has ls 4 [(0, .ref (ad 0)), (1, .int x1), (2, .int x2)] := hl
  have L57 : ∀ (n : Nat) (u : ts_S) (x1 x2 x3 : Int32) (H : Heap) (locs : List Loc) (ls : Array Slot), dm_create_57 n u x1 x2 x3 = some (r0, u0) → ts_W mF D ca ad A s H locs u → lv_has ls 4 [(0, .ref (ad 0)), (1, .int x1), (2, .int x2), (3, .int x3)] → W p l e rM_create s m args below meth c H locs 0 0 (MQ below (va_Qi (fun r v => r = r0 ∧ v = u0) (ts_post mF D ca ad A) A) args s 0 0 A) (F0 m 57 ls []) := by
    intro n
    induction n with
    | zero => intro u x1 x2 x3 H locs ls hd; cases (show (none : Option (Int32 × ts_S)) = some (r0, u0) from hd)
    | succ n57 ih57 =>
      intro u x1 x2 x3 H locs ls hd hw hl
      replace hd : dm_create_57_b (dm_create_57 n57) u x1 x2 x3 = some (r0, u0) := hd
      unfold dm_create_57_b at hd
      refine lv_iload_n hx hb dM_create_57 rfl (lv_at hl 3 rfl) ?_
      refine lv_iconst (v := 4) hx hb dM_create_58 (by decide) ?_
      refine lv_icmp_ge (tgt := 79) hx hb dM_create_59 (by decide) (fun cq => ?_) (fun cq => ?_)
      · replace hd := ts_if_p cq hd
        refine lv_aload_n hx hb dM_create_79 rfl (lv_at hl 0 rfl) ?_
        refine lv_iload_n hx hb dM_create_80 rfl (lv_at hl 1 rfl) ?_
        obtain ⟨r81, u81, hq, hd⟩ := ts_b_s hd
        refine cM_80 hc hn hw hq hl.1 ⟨Nat.le_of_ble_eq_true rfl, Nat.le_of_ble_eq_true rfl⟩ (Nat.le_of_ble_eq_true rfl) dM_create_81 (fun H locs hw => ?_)
        refine lv_iconst (v := 0) hx hb dM_create_84 (by decide) ?_
        exact ts_iret hx hb hr hlk (vp_nar_int _) hw hd dM_create_85
      · replace hd := ts_if_n cq hd
        refine lv_aload_n hx hb dM_create_62 rfl (lv_at hl 0 rfl) ?_
        refine gM_16 hc hn hw dM_create_63 ?_
        refine lv_iload_n hx hb dM_create_66 rfl (lv_at hl 1 rfl) ?_
        refine lv_iconst (v := 4) hx hb dM_create_67 (by decide) ?_
        refine lv_imul hx hb dM_create_68 ?_
        refine lv_iload_n hx hb dM_create_69 rfl (lv_at hl 3 rfl) ?_
        refine lv_iadd hx hb dM_create_70 ?_
        refine lv_iconst (v := 0) hx hb dM_create_71 (by decide) ?_
        obtain ⟨h, hd⟩ := ts_ix_s hd
        refine mm_s4 hc hw h dM_create_72 (fun H locs hw => ?_)
        refine lv_iinc (v := (x3 + 1)) (lv' := [(3, .int (x3 + 1)), (0, .ref (ad 0)), (1, .int x1), (2, .int x2)]) hx hb dM_create_73 hl (k := 3) rfl rfl (by decide) rfl (fun ls hl => ?_)
        refine lv_goto (tgt := 57) hx hb dM_create_76 (by decide) ?_
        exact ih57 (ts_a 4 ((x1 * 4) + x3).toNatClampNeg 0 u) x1 x2 (x3 + 1) _ _ _ hd hw (lv_sub hl [1, 2, 3, 0] rfl)
  unfold dm_create at hd
  refine lv_iload_n hx hb dM_create_0 rfl (lv_at hl 1 rfl) ?_
  refine lv_bipush (v := 16) hx hb dM_create_1 (by decide) ?_
  obtain ⟨r3, u3, hq, hd⟩ := ts_b_s hd
  refine cM_51 hc hn hw hq hl.1 ⟨Nat.le_of_ble_eq_true rfl, Nat.le_of_ble_eq_true rfl⟩ (Nat.le_of_ble_eq_true rfl) dM_create_3 (fun H locs hw => ?_)
  refine lv_if_eq (tgt := 28) hx hb dM_create_6 (by decide) (fun cq => ?_) (fun cq => ?_)
  · replace hd := ts_if_p cq hd
    refine lv_iconst (v := (-1)) hx hb dM_create_28 (by decide) ?_
    exact ts_iret hx hb hr hlk (vp_nar_int _) hw hd dM_create_29
  · replace hd := ts_if_n cq hd
    refine lv_iload_n hx hb dM_create_9 rfl (lv_at hl 2 rfl) ?_
    refine lv_iconst (v := 1) hx hb dM_create_10 (by decide) ?_
    refine lv_icmp_lt (tgt := 28) hx hb dM_create_11 (by decide) (fun cq => ?_) (fun cq => ?_)
    · replace hd := ts_if_p cq hd
      refine lv_iconst (v := (-1)) hx hb dM_create_28 (by decide) ?_
      exact ts_iret hx hb hr hlk (vp_nar_int _) hw hd dM_create_29
    · replace hd := ts_if_n cq hd
      refine lv_iload_n hx hb dM_create_14 rfl (lv_at hl 2 rfl) ?_
      refine lv_iconst (v := 4) hx hb dM_create_15 (by decide) ?_
      refine lv_icmp_gt (tgt := 28) hx hb dM_create_16 (by decide) (fun cq => ?_) (fun cq => ?_)
      · replace hd := ts_if_p cq hd
        refine lv_iconst (v := (-1)) hx hb dM_create_28 (by decide) ?_
        exact ts_iret hx hb hr hlk (vp_nar_int _) hw hd dM_create_29
      · replace hd := ts_if_n cq hd
        refine lv_aload_n hx hb dM_create_19 rfl (lv_at hl 0 rfl) ?_
        refine gM_7 hc hn hw dM_create_20 ?_
        refine lv_iload_n hx hb dM_create_23 rfl (lv_at hl 1 rfl) ?_
        obtain ⟨h, hd⟩ := ts_ix_s hd
        refine mm_l2 hc hw h dM_create_24 ?_
        refine lv_if_eq (tgt := 30) hx hb dM_create_25 (by decide) (fun cq => ?_) (fun cq => ?_)
        · replace hd := ts_if_p cq hd
          refine lv_aload_n hx hb dM_create_30 rfl (lv_at hl 0 rfl) ?_
          refine lv_iload_n hx hb dM_create_31 rfl (lv_at hl 2 rfl) ?_
          obtain ⟨r32, u32, hq, hd⟩ := ts_b_s hd
          refine cM_72 hc hn hw hq hl.1 ⟨Nat.le_of_ble_eq_true rfl, Nat.le_of_ble_eq_true rfl⟩ (Nat.le_of_ble_eq_true rfl) dM_create_32 (fun H locs hw => ?_)
          refine lv_if_ne (tgt := 41) hx hb dM_create_35 (by decide) (fun cq => ?_) (fun cq => ?_)
          · replace hd := ts_if_n cq hd
            refine lv_aload_n hx hb dM_create_41 rfl (lv_at hl 0 rfl) ?_
            refine gM_7 hc hn hw dM_create_42 ?_
            refine lv_iload_n hx hb dM_create_45 rfl (lv_at hl 1 rfl) ?_
            refine lv_iconst (v := 1) hx hb dM_create_46 (by decide) ?_
            obtain ⟨h, hd⟩ := ts_ix_s hd
            refine mm_s2 hc hw h dM_create_47 (fun H locs hw => ?_)
            refine lv_aload_n hx hb dM_create_48 rfl (lv_at hl 0 rfl) ?_
            refine gM_13 hc hn hw dM_create_49 ?_
            refine lv_iload_n hx hb dM_create_52 rfl (lv_at hl 1 rfl) ?_
            refine lv_iload_n hx hb dM_create_53 rfl (lv_at hl 2 rfl) ?_
            obtain ⟨h, hd⟩ := ts_ix_s hd
            refine mm_s3 hc hw h dM_create_54 (fun H locs hw => ?_)
            refine lv_iconst (v := 0) hx hb dM_create_55 (by decide) ?_
            refine lv_istore_n (lv' := [(3, .int 0), (0, .ref (ad 0)), (1, .int x1), (2, .int x2)]) hx hb dM_create_56 rfl hl (by decide) rfl (fun ls hl => ?_)
            exact L57 40 (ts_a 3 x1.toNatClampNeg x2 (ts_a 2 x1.toNatClampNeg 1 u32)) x1 x2 0 _ _ _ hd hw (lv_sub hl [1, 2, 3, 0] rfl)
          · replace hd := ts_if_p cq hd
            refine lv_bipush (v := (-2)) hx hb dM_create_38 (by decide) ?_
            exact ts_iret hx hb hr hlk (vp_nar_int _) hw hd dM_create_40
        · replace hd := ts_if_n cq hd
          refine lv_iconst (v := (-1)) hx hb dM_create_28 (by decide) ?_
          exact ts_iret hx hb hr hlk (vp_nar_int _) hw hd dM_create_29
def rM_move : Room := { frames := 0, cells := 0, slots := 0, locals := 0 }
set_option maxHeartbeats 4000000 in
set_option maxRecDepth 100000 in
theorem cm_move (l : Launch) {u : ts_S} {x1 x2 x3 : Int32} {r0 : Int32} {u0 : ts_S} (hd : dm_move u x1 x2 x3 = some (r0, u0)) : ts_Cv mF l yM_move (.code yM_move bM_move 4 none :: uW) rM_move (fun ad => [.ref (ad 0), .int x1, .int x2, .int x3]) u u0 := by
  refine ts_in_v mF l (by decide) (fun p e s m args below meth c D ca ad A hc hn hr hlk hw => ?_)
  have hx := hc.1
  have hb := hc.2.1
  have hl := lv_entry ([.ref (ad 0), .int x1, .int x2, .int x3]) (n := 4) (Nat.le_of_ble_eq_true rfl)
  rw [lg_entry_eq]
  generalize (lg_sl ([.ref (ad 0), .int x1, .int x2, .int x3]) ++ List.replicate (4 - (lg_sl ([.ref (ad 0), .int x1, .int x2, .int x3])).length) Slot.unset).toArray = ls at hl ⊢
  replace hl : lv_has ls 4 [(0, .ref (ad 0)), (1, .int x1), (2, .int x2), (3, .int x3)] := hl
  unfold dm_move at hd
  refine lv_aload_n hx hb dM_move_0 rfl (lv_at hl 0 rfl) ?_
  refine gM_41 hc hn hw dM_move_1 ?_
  refine lv_iload_n hx hb dM_move_4 rfl (lv_at hl 1 rfl) ?_
  refine lv_icmp_eq (tgt := 29) hx hb dM_move_5 (by decide) (fun cq => ?_) (fun cq => ?_)
  · replace hd := ts_if_p cq hd
    refine lv_aload_n hx hb dM_move_29 rfl (lv_at hl 0 rfl) ?_
    refine lv_dup hx hb dM_move_30 rfl ?_
    refine gM_66 hc hn hw dM_move_31 ?_
    refine lv_aload_n hx hb dM_move_34 rfl (lv_at hl 0 rfl) ?_
    refine gM_69 hc hn hw dM_move_35 ?_
    refine lv_iload_n hx hb dM_move_38 rfl (lv_at hl 2 rfl) ?_
    refine lv_icmp_ge (tgt := 51) hx hb dM_move_39 (by decide) (fun cq => ?_) (fun cq => ?_)
    · replace hd := ts_if_p cq hd
      refine lv_aload_n hx hb dM_move_51 rfl (lv_at hl 0 rfl) ?_
      refine gM_69 hc hn hw dM_move_52 ?_
      refine lv_iload_n hx hb dM_move_55 rfl (lv_at hl 2 rfl) ?_
      refine lv_isub hx hb dM_move_56 ?_
      refine lv_iadd hx hb dM_move_57 ?_
      refine pM_66 hc hn hw dM_move_58 (fun H locs hw => ?_)
      refine lv_aload_n hx hb dM_move_61 rfl (lv_at hl 0 rfl) ?_
      refine lv_dup hx hb dM_move_62 rfl ?_
      refine gM_66 hc hn hw dM_move_63 ?_
      refine lv_iload_n hx hb dM_move_66 rfl (lv_at hl 3 rfl) ?_
      refine lv_iadd hx hb dM_move_67 ?_
      refine pM_66 hc hn hw dM_move_68 (fun H locs hw => ?_)
      refine lv_aload_n hx hb dM_move_71 rfl (lv_at hl 0 rfl) ?_
      refine lv_iload_n hx hb dM_move_72 rfl (lv_at hl 2 rfl) ?_
      refine lv_iload_n hx hb dM_move_73 rfl (lv_at hl 3 rfl) ?_
      refine lv_iadd hx hb dM_move_74 ?_
      refine pM_69 hc hn hw dM_move_75 (fun H locs hw => ?_)
      exact ts_vret hx hb hr hlk hw hd dM_move_78
    · replace hd := ts_if_n cq hd
      refine lv_iload_n hx hb dM_move_42 rfl (lv_at hl 2 rfl) ?_
      refine lv_aload_n hx hb dM_move_43 rfl (lv_at hl 0 rfl) ?_
      refine gM_69 hc hn hw dM_move_44 ?_
      refine lv_isub hx hb dM_move_47 ?_
      refine lv_goto (tgt := 57) hx hb dM_move_48 (by decide) ?_
      refine lv_iadd hx hb dM_move_57 ?_
      refine pM_66 hc hn hw dM_move_58 (fun H locs hw => ?_)
      refine lv_aload_n hx hb dM_move_61 rfl (lv_at hl 0 rfl) ?_
      refine lv_dup hx hb dM_move_62 rfl ?_
      refine gM_66 hc hn hw dM_move_63 ?_
      refine lv_iload_n hx hb dM_move_66 rfl (lv_at hl 3 rfl) ?_
      refine lv_iadd hx hb dM_move_67 ?_
      refine pM_66 hc hn hw dM_move_68 (fun H locs hw => ?_)
      refine lv_aload_n hx hb dM_move_71 rfl (lv_at hl 0 rfl) ?_
      refine lv_iload_n hx hb dM_move_72 rfl (lv_at hl 2 rfl) ?_
      refine lv_iload_n hx hb dM_move_73 rfl (lv_at hl 3 rfl) ?_
      refine lv_iadd hx hb dM_move_74 ?_
      refine pM_69 hc hn hw dM_move_75 (fun H locs hw => ?_)
      exact ts_vret hx hb hr hlk hw hd dM_move_78
  · replace hd := ts_if_n cq hd
    refine lv_aload_n hx hb dM_move_8 rfl (lv_at hl 0 rfl) ?_
    refine lv_dup hx hb dM_move_9 rfl ?_
    refine gM_66 hc hn hw dM_move_10 ?_
    refine lv_bipush (v := 20) hx hb dM_move_13 (by decide) ?_
    refine lv_iadd hx hb dM_move_15 ?_
    refine pM_66 hc hn hw dM_move_16 (fun H locs hw => ?_)
    refine lv_aload_n hx hb dM_move_19 rfl (lv_at hl 0 rfl) ?_
    refine lv_iload_n hx hb dM_move_20 rfl (lv_at hl 1 rfl) ?_
    refine pM_41 hc hn hw dM_move_21 (fun H locs hw => ?_)
    refine lv_aload_n hx hb dM_move_24 rfl (lv_at hl 0 rfl) ?_
    refine lv_iconst (v := 0) hx hb dM_move_25 (by decide) ?_
    refine pM_69 hc hn hw dM_move_26 (fun H locs hw => ?_)
    refine lv_aload_n hx hb dM_move_29 rfl (lv_at hl 0 rfl) ?_
    refine lv_dup hx hb dM_move_30 rfl ?_
    refine gM_66 hc hn hw dM_move_31 ?_
    refine lv_aload_n hx hb dM_move_34 rfl (lv_at hl 0 rfl) ?_
    refine gM_69 hc hn hw dM_move_35 ?_
    refine lv_iload_n hx hb dM_move_38 rfl (lv_at hl 2 rfl) ?_
    refine lv_icmp_ge (tgt := 51) hx hb dM_move_39 (by decide) (fun cq => ?_) (fun cq => ?_)
    · replace hd := ts_if_p cq hd
      refine lv_aload_n hx hb dM_move_51 rfl (lv_at hl 0 rfl) ?_
      refine gM_69 hc hn hw dM_move_52 ?_
      refine lv_iload_n hx hb dM_move_55 rfl (lv_at hl 2 rfl) ?_
      refine lv_isub hx hb dM_move_56 ?_
      refine lv_iadd hx hb dM_move_57 ?_
      refine pM_66 hc hn hw dM_move_58 (fun H locs hw => ?_)
      refine lv_aload_n hx hb dM_move_61 rfl (lv_at hl 0 rfl) ?_
      refine lv_dup hx hb dM_move_62 rfl ?_
      refine gM_66 hc hn hw dM_move_63 ?_
      refine lv_iload_n hx hb dM_move_66 rfl (lv_at hl 3 rfl) ?_
      refine lv_iadd hx hb dM_move_67 ?_
      refine pM_66 hc hn hw dM_move_68 (fun H locs hw => ?_)
      refine lv_aload_n hx hb dM_move_71 rfl (lv_at hl 0 rfl) ?_
      refine lv_iload_n hx hb dM_move_72 rfl (lv_at hl 2 rfl) ?_
      refine lv_iload_n hx hb dM_move_73 rfl (lv_at hl 3 rfl) ?_
      refine lv_iadd hx hb dM_move_74 ?_
      refine pM_69 hc hn hw dM_move_75 (fun H locs hw => ?_)
      exact ts_vret hx hb hr hlk hw hd dM_move_78
    · replace hd := ts_if_n cq hd
      refine lv_iload_n hx hb dM_move_42 rfl (lv_at hl 2 rfl) ?_
      refine lv_aload_n hx hb dM_move_43 rfl (lv_at hl 0 rfl) ?_
      refine gM_69 hc hn hw dM_move_44 ?_
      refine lv_isub hx hb dM_move_47 ?_
      refine lv_goto (tgt := 57) hx hb dM_move_48 (by decide) ?_
      refine lv_iadd hx hb dM_move_57 ?_
      refine pM_66 hc hn hw dM_move_58 (fun H locs hw => ?_)
      refine lv_aload_n hx hb dM_move_61 rfl (lv_at hl 0 rfl) ?_
      refine lv_dup hx hb dM_move_62 rfl ?_
      refine gM_66 hc hn hw dM_move_63 ?_
      refine lv_iload_n hx hb dM_move_66 rfl (lv_at hl 3 rfl) ?_
      refine lv_iadd hx hb dM_move_67 ?_
      refine pM_66 hc hn hw dM_move_68 (fun H locs hw => ?_)
      refine lv_aload_n hx hb dM_move_71 rfl (lv_at hl 0 rfl) ?_
      refine lv_iload_n hx hb dM_move_72 rfl (lv_at hl 2 rfl) ?_
      refine lv_iload_n hx hb dM_move_73 rfl (lv_at hl 3 rfl) ?_
      refine lv_iadd hx hb dM_move_74 ?_
      refine pM_69 hc hn hw dM_move_75 (fun H locs hw => ?_)
      exact ts_vret hx hb hr hlk hw hd dM_move_78
section
variable {p : Program} {l : Launch} {e : Env} {R : Room} {s : State} {m : MethodId} {args : Array Value} {below : List Frame} {meth : Method} {c : Code} {H : Heap} {locs : List Loc} {Q : State → Prop} {cc : ByteArray} {pc nL : Nat} {ls : Array Slot} {rest : List Value} {D : va_G} {ca : Nat → ClassId} {ad : Nat → Nat} {A : Nat → Prop} {u : ts_S} {cells slots : Nat}
theorem cM_76 (hc : CallFix p m c cc nL s args uW RM) (hn : nx s) (hw : ts_W mF D ca ad A s H locs u) {x1 x2 x3 : Int32} {r0 : Int32} {u0 : ts_S} (hq : dm_move u x1 x2 x3 = some (r0, u0)) (hsz : ls.size = nL) (hR : rM_move.frames + 1 ≤ R.frames ∧ 8 + (4 + 11) + rM_move.locals ≤ R.locals) (hrest : (rest.map fun v => v.category).sum ≤ 8) (hdg : decode cc pc = .ok (.invokevirtual 76, 3)) (kk : ∀ (H1 : Heap) (locs1 : List Loc), ts_W mF D ca ad A s H1 locs1 u0 → W p l e R s m args below meth c H1 locs1 0 0 Q (F0 m (pc + 3) ls rest)) : W p l e R s m args below meth c H locs 0 0 Q (F0 m pc ls (.int x3 :: .int x2 :: .int x1 :: .ref (ad 0) :: rest)) :=
  ts_callVv (b := ad 0) (As := [.int x1, .int x2, .int x3]) hc hn hw (cm_move l hq) rfl (cwV 3 hc.2.2.2.2 (gd_V (by decide +kernel) (by decide +kernel) (by decide +kernel) (by decide +kernel) (code_M_move)) rfl rfl rfl (by decide +kernel) hR) (va_recv hw.2.2.2.1 hw.1 (ci := 2) (q0 := 0) rfl rfl) rfl hsz hrest hdg kk
end
def rM_bringBack : Room := { frames := 2, cells := 0, slots := 0, locals := 46 }
set_option maxHeartbeats 4000000 in
set_option maxRecDepth 100000 in
theorem cm_bringBack (l : Launch) {u : ts_S} {x1 : Int32} {r0 : Int32} {u0 : ts_S} (hd : dm_bringBack u x1 = some (r0, u0)) : ts_Ci mF l yM_bringBack (.code yM_bringBack bM_bringBack 2 (some .boolean) :: uW) rM_bringBack (fun ad => [.ref (ad 0), .int x1]) u r0 u0 := by
  refine ts_in_i mF l (by decide) (fun p e s m args below meth c D ca ad A hc hn hr hlk hw => ?_)
  have hx := hc.1
  have hb := hc.2.1
  have hl := lv_entry ([.ref (ad 0), .int x1]) (n := 2) (Nat.le_of_ble_eq_true rfl)
  rw [lg_entry_eq]
  generalize (lg_sl ([.ref (ad 0), .int x1]) ++ List.replicate (2 - (lg_sl ([.ref (ad 0), .int x1])).length) Slot.unset).toArray = ls at hl ⊢
  replace hl : lv_has ls 2 [(0, .ref (ad 0)), (1, .int x1)] := hl
  unfold dm_bringBack at hd
  refine lv_aload_n hx hb dM_bringBack_0 rfl (lv_at hl 0 rfl) ?_
  refine lv_aload_n hx hb dM_bringBack_1 rfl (lv_at hl 0 rfl) ?_
  refine gM_13 hc hn hw dM_bringBack_2 ?_
  refine lv_iload_n hx hb dM_bringBack_5 rfl (lv_at hl 1 rfl) ?_
  obtain ⟨h, hd⟩ := ts_ix_s hd
  refine mm_l3 hc hw h dM_bringBack_6 ?_
  obtain ⟨r7, u7, hq, hd⟩ := ts_b_s hd
  refine cM_72 hc hn hw hq hl.1 ⟨Nat.le_of_ble_eq_true rfl, Nat.le_of_ble_eq_true rfl⟩ (Nat.le_of_ble_eq_true rfl) dM_bringBack_7 (fun H locs hw => ?_)
  refine lv_if_ne (tgt := 15) hx hb dM_bringBack_10 (by decide) (fun cq => ?_) (fun cq => ?_)
  · replace hd := ts_if_n cq hd
    refine lv_aload_n hx hb dM_bringBack_15 rfl (lv_at hl 0 rfl) ?_
    refine lv_aload_n hx hb dM_bringBack_16 rfl (lv_at hl 0 rfl) ?_
    refine gM_22 hc hn hw dM_bringBack_17 ?_
    refine lv_iload_n hx hb dM_bringBack_20 rfl (lv_at hl 1 rfl) ?_
    obtain ⟨h, hd⟩ := ts_ix_s hd
    refine mm_l5 hc hw h dM_bringBack_21 ?_
    refine lv_aload_n hx hb dM_bringBack_22 rfl (lv_at hl 0 rfl) ?_
    refine gM_25 hc hn hw dM_bringBack_23 ?_
    refine lv_iload_n hx hb dM_bringBack_26 rfl (lv_at hl 1 rfl) ?_
    obtain ⟨h, hd⟩ := ts_ix_s hd
    refine mm_l6 hc hw h dM_bringBack_27 ?_
    refine lv_aload_n hx hb dM_bringBack_28 rfl (lv_at hl 0 rfl) ?_
    refine gM_13 hc hn hw dM_bringBack_29 ?_
    refine lv_iload_n hx hb dM_bringBack_32 rfl (lv_at hl 1 rfl) ?_
    obtain ⟨h, hd⟩ := ts_ix_s hd
    refine mm_l3 hc hw h dM_bringBack_33 ?_
    obtain ⟨r34, u34, hq, hd⟩ := ts_b_s hd
    refine cM_76 hc hn hw hq hl.1 ⟨Nat.le_of_ble_eq_true rfl, Nat.le_of_ble_eq_true rfl⟩ (Nat.le_of_ble_eq_true rfl) dM_bringBack_34 (fun H locs hw => ?_)
    refine lv_aload_n hx hb dM_bringBack_37 rfl (lv_at hl 0 rfl) ?_
    refine gM_7 hc hn hw dM_bringBack_38 ?_
    refine lv_iload_n hx hb dM_bringBack_41 rfl (lv_at hl 1 rfl) ?_
    refine lv_iconst (v := 2) hx hb dM_bringBack_42 (by decide) ?_
    obtain ⟨h, hd⟩ := ts_ix_s hd
    refine mm_s2 hc hw h dM_bringBack_43 (fun H locs hw => ?_)
    refine lv_aload_n hx hb dM_bringBack_44 rfl (lv_at hl 0 rfl) ?_
    refine lv_iload_n hx hb dM_bringBack_45 rfl (lv_at hl 1 rfl) ?_
    obtain ⟨r46, u46, hq, hd⟩ := ts_b_s hd
    refine cM_80 hc hn hw hq hl.1 ⟨Nat.le_of_ble_eq_true rfl, Nat.le_of_ble_eq_true rfl⟩ (Nat.le_of_ble_eq_true rfl) dM_bringBack_46 (fun H locs hw => ?_)
    refine lv_iconst (v := 1) hx hb dM_bringBack_49 (by decide) ?_
    exact ts_iret hx hb hr hlk (by decide +kernel) hw hd dM_bringBack_50
  · replace hd := ts_if_p cq hd
    refine lv_iconst (v := 0) hx hb dM_bringBack_13 (by decide) ?_
    exact ts_iret hx hb hr hlk (by decide +kernel) hw hd dM_bringBack_14
section
variable {p : Program} {l : Launch} {e : Env} {R : Room} {s : State} {m : MethodId} {args : Array Value} {below : List Frame} {meth : Method} {c : Code} {H : Heap} {locs : List Loc} {Q : State → Prop} {cc : ByteArray} {pc nL : Nat} {ls : Array Slot} {rest : List Value} {D : va_G} {ca : Nat → ClassId} {ad : Nat → Nat} {A : Nat → Prop} {u : ts_S} {cells slots : Nat}
theorem cM_87 (hc : CallFix p m c cc nL s args uW RM) (hn : nx s) (hw : ts_W mF D ca ad A s H locs u) {x1 : Int32} {r0 : Int32} {u0 : ts_S} (hq : dm_bringBack u x1 = some (r0, u0)) (hsz : ls.size = nL) (hR : rM_bringBack.frames + 1 ≤ R.frames ∧ 8 + (2 + 11) + rM_bringBack.locals ≤ R.locals) (hrest : (rest.map fun v => v.category).sum ≤ 8) (hdg : decode cc pc = .ok (.invokevirtual 87, 3)) (kk : ∀ (H1 : Heap) (locs1 : List Loc), ts_W mF D ca ad A s H1 locs1 u0 → W p l e R s m args below meth c H1 locs1 0 0 Q (F0 m (pc + 3) ls (.int r0 :: rest))) : W p l e R s m args below meth c H locs 0 0 Q (F0 m pc ls (.int x1 :: .ref (ad 0) :: rest)) :=
  ts_callVi (b := ad 0) (As := [.int x1]) hc hn hw (cm_bringBack l hq) rfl (cwV 1 hc.2.2.2.2 (gd_V (by decide +kernel) (by decide +kernel) (by decide +kernel) (by decide +kernel) (code_M_bringBack)) rfl rfl rfl (by decide +kernel) hR) (va_recv hw.2.2.2.1 hw.1 (ci := 2) (q0 := 0) rfl rfl) rfl hsz hrest hdg kk
end
def rM_there : Room := { frames := 1, cells := 0, slots := 0, locals := 21 }
set_option maxHeartbeats 4000000 in
set_option maxRecDepth 100000 in
theorem cm_there (l : Launch) {u : ts_S} {x1 : Int32} {r0 : Int32} {u0 : ts_S} (hd : dm_there u x1 = some (r0, u0)) : ts_Ci mF l yM_there (.code yM_there bM_there 2 (some .boolean) :: uW) rM_there (fun ad => [.ref (ad 0), .int x1]) u r0 u0 := by
  refine ts_in_i mF l (by decide) (fun p e s m args below meth c D ca ad A hc hn hr hlk hw => ?_)
  have hx := hc.1
  have hb := hc.2.1
  have hl := lv_entry ([.ref (ad 0), .int x1]) (n := 2) (Nat.le_of_ble_eq_true rfl)
  rw [lg_entry_eq]
  generalize (lg_sl ([.ref (ad 0), .int x1]) ++ List.replicate (2 - (lg_sl ([.ref (ad 0), .int x1])).length) Slot.unset).toArray = ls at hl ⊢
  replace hl : lv_has ls 2 [(0, .ref (ad 0)), (1, .int x1)] := hl
  unfold dm_there at hd
  refine lv_iload_n hx hb dM_there_0 rfl (lv_at hl 1 rfl) ?_
  refine lv_bipush (v := 16) hx hb dM_there_1 (by decide) ?_
  obtain ⟨r3, u3, hq, hd⟩ := ts_b_s hd
  refine cM_51 hc hn hw hq hl.1 ⟨Nat.le_of_ble_eq_true rfl, Nat.le_of_ble_eq_true rfl⟩ (Nat.le_of_ble_eq_true rfl) dM_there_3 (fun H locs hw => ?_)
  refine lv_if_eq (tgt := 22) hx hb dM_there_6 (by decide) (fun cq => ?_) (fun cq => ?_)
  · replace hd := ts_if_p cq hd
    refine lv_iconst (v := 0) hx hb dM_there_22 (by decide) ?_
    exact ts_iret hx hb hr hlk (by decide +kernel) hw hd dM_there_23
  · replace hd := ts_if_n cq hd
    refine lv_aload_n hx hb dM_there_9 rfl (lv_at hl 0 rfl) ?_
    refine gM_7 hc hn hw dM_there_10 ?_
    refine lv_iload_n hx hb dM_there_13 rfl (lv_at hl 1 rfl) ?_
    obtain ⟨h, hd⟩ := ts_ix_s hd
    refine mm_l2 hc hw h dM_there_14 ?_
    refine lv_if_eq (tgt := 22) hx hb dM_there_15 (by decide) (fun cq => ?_) (fun cq => ?_)
    · replace hd := ts_if_p cq hd
      refine lv_iconst (v := 0) hx hb dM_there_22 (by decide) ?_
      exact ts_iret hx hb hr hlk (by decide +kernel) hw hd dM_there_23
    · replace hd := ts_if_n cq hd
      refine lv_iconst (v := 1) hx hb dM_there_18 (by decide) ?_
      refine lv_goto (tgt := 23) hx hb dM_there_19 (by decide) ?_
      exact ts_iret hx hb hr hlk (by decide +kernel) hw hd dM_there_23
section
variable {p : Program} {l : Launch} {e : Env} {R : Room} {s : State} {m : MethodId} {args : Array Value} {below : List Frame} {meth : Method} {c : Code} {H : Heap} {locs : List Loc} {Q : State → Prop} {cc : ByteArray} {pc nL : Nat} {ls : Array Slot} {rest : List Value} {D : va_G} {ca : Nat → ClassId} {ad : Nat → Nat} {A : Nat → Prop} {u : ts_S} {cells slots : Nat}
theorem cM_84 (hc : CallFix p m c cc nL s args uW RM) (hn : nx s) (hw : ts_W mF D ca ad A s H locs u) {x1 : Int32} {r0 : Int32} {u0 : ts_S} (hq : dm_there u x1 = some (r0, u0)) (hsz : ls.size = nL) (hR : rM_there.frames + 1 ≤ R.frames ∧ 8 + (2 + 11) + rM_there.locals ≤ R.locals) (hrest : (rest.map fun v => v.category).sum ≤ 8) (hdg : decode cc pc = .ok (.invokevirtual 84, 3)) (kk : ∀ (H1 : Heap) (locs1 : List Loc), ts_W mF D ca ad A s H1 locs1 u0 → W p l e R s m args below meth c H1 locs1 0 0 Q (F0 m (pc + 3) ls (.int r0 :: rest))) : W p l e R s m args below meth c H locs 0 0 Q (F0 m pc ls (.int x1 :: .ref (ad 0) :: rest)) :=
  ts_callVi (b := ad 0) (As := [.int x1]) hc hn hw (cm_there l hq) rfl (cwV 1 hc.2.2.2.2 (gd_V (by decide +kernel) (by decide +kernel) (by decide +kernel) (by decide +kernel) (code_M_there)) rfl rfl rfl (by decide +kernel) hR) (va_recv hw.2.2.2.1 hw.1 (ci := 2) (q0 := 0) rfl rfl) rfl hsz hrest hdg kk
end
def rM_write : Room := { frames := 3, cells := 0, slots := 0, locals := 67 }
set_option maxHeartbeats 4000000 in
set_option maxRecDepth 100000 in
theorem cm_write (l : Launch) {u : ts_S} {x1 x2 x3 : Int32} {r0 : Int32} {u0 : ts_S} (hd : dm_write u x1 x2 x3 = some (r0, u0)) : ts_Ci mF l yM_write (.code yM_write bM_write 4 (some .int) :: uW) rM_write (fun ad => [.ref (ad 0), .int x1, .int x2, .int x3]) u r0 u0 := by
  refine ts_in_i mF l (by decide) (fun p e s m args below meth c D ca ad A hc hn hr hlk hw => ?_)
  have hx := hc.1
  have hb := hc.2.1
  have hl := lv_entry ([.ref (ad 0), .int x1, .int x2, .int x3]) (n := 4) (Nat.le_of_ble_eq_true rfl)
  rw [lg_entry_eq]
  generalize (lg_sl ([.ref (ad 0), .int x1, .int x2, .int x3]) ++ List.replicate (4 - (lg_sl ([.ref (ad 0), .int x1, .int x2, .int x3])).length) Slot.unset).toArray = ls at hl ⊢
  replace hl : lv_has ls 4 [(0, .ref (ad 0)), (1, .int x1), (2, .int x2), (3, .int x3)] := hl
  unfold dm_write at hd
  refine lv_aload_n hx hb dM_write_0 rfl (lv_at hl 0 rfl) ?_
  refine lv_iload_n hx hb dM_write_1 rfl (lv_at hl 1 rfl) ?_
  obtain ⟨r2, u2, hq, hd⟩ := ts_b_s hd
  refine cM_84 hc hn hw hq hl.1 ⟨Nat.le_of_ble_eq_true rfl, Nat.le_of_ble_eq_true rfl⟩ (Nat.le_of_ble_eq_true rfl) dM_write_2 (fun H locs hw => ?_)
  refine lv_if_eq (tgt := 21) hx hb dM_write_5 (by decide) (fun cq => ?_) (fun cq => ?_)
  · replace hd := ts_if_p cq hd
    refine lv_iconst (v := (-1)) hx hb dM_write_21 (by decide) ?_
    exact ts_iret hx hb hr hlk (vp_nar_int _) hw hd dM_write_22
  · replace hd := ts_if_n cq hd
    refine lv_iload_n hx hb dM_write_8 rfl (lv_at hl 2 rfl) ?_
    refine lv_aload_n hx hb dM_write_9 rfl (lv_at hl 0 rfl) ?_
    refine gM_13 hc hn hw dM_write_10 ?_
    refine lv_iload_n hx hb dM_write_13 rfl (lv_at hl 1 rfl) ?_
    obtain ⟨h, hd⟩ := ts_ix_s hd
    refine mm_l3 hc hw h dM_write_14 ?_
    obtain ⟨r15, u15, hq, hd⟩ := ts_b_s hd
    refine cM_51 hc hn hw hq hl.1 ⟨Nat.le_of_ble_eq_true rfl, Nat.le_of_ble_eq_true rfl⟩ (Nat.le_of_ble_eq_true rfl) dM_write_15 (fun H locs hw => ?_)
    refine lv_if_ne (tgt := 23) hx hb dM_write_18 (by decide) (fun cq => ?_) (fun cq => ?_)
    · replace hd := ts_if_n cq hd
      refine lv_aload_n hx hb dM_write_23 rfl (lv_at hl 0 rfl) ?_
      refine gM_7 hc hn hw dM_write_24 ?_
      refine lv_iload_n hx hb dM_write_27 rfl (lv_at hl 1 rfl) ?_
      obtain ⟨h, hd⟩ := ts_ix_s hd
      refine mm_l2 hc hw h dM_write_28 ?_
      refine lv_iconst (v := 4) hx hb dM_write_29 (by decide) ?_
      refine lv_icmp_ne (tgt := 36) hx hb dM_write_30 (by decide) (fun cq => ?_) (fun cq => ?_)
      · replace hd := ts_if_n cq hd
        refine lv_aload_n hx hb dM_write_36 rfl (lv_at hl 0 rfl) ?_
        refine gM_7 hc hn hw dM_write_37 ?_
        refine lv_iload_n hx hb dM_write_40 rfl (lv_at hl 1 rfl) ?_
        obtain ⟨h, hd⟩ := ts_ix_s hd
        refine mm_l2 hc hw h dM_write_41 ?_
        refine lv_iconst (v := 3) hx hb dM_write_42 (by decide) ?_
        refine lv_icmp_ne (tgt := 57) hx hb dM_write_43 (by decide) (fun cq => ?_) (fun cq => ?_)
        · replace hd := ts_if_n cq hd
          refine lv_aload_n hx hb dM_write_57 rfl (lv_at hl 0 rfl) ?_
          refine gM_16 hc hn hw dM_write_58 ?_
          refine lv_iload_n hx hb dM_write_61 rfl (lv_at hl 1 rfl) ?_
          refine lv_iconst (v := 4) hx hb dM_write_62 (by decide) ?_
          refine lv_imul hx hb dM_write_63 ?_
          refine lv_iload_n hx hb dM_write_64 rfl (lv_at hl 2 rfl) ?_
          refine lv_iadd hx hb dM_write_65 ?_
          refine lv_iload_n hx hb dM_write_66 rfl (lv_at hl 3 rfl) ?_
          obtain ⟨h, hd⟩ := ts_ix_s hd
          refine mm_s4 hc hw h dM_write_67 (fun H locs hw => ?_)
          refine lv_aload_n hx hb dM_write_68 rfl (lv_at hl 0 rfl) ?_
          refine gM_7 hc hn hw dM_write_69 ?_
          refine lv_iload_n hx hb dM_write_72 rfl (lv_at hl 1 rfl) ?_
          refine lv_iconst (v := 1) hx hb dM_write_73 (by decide) ?_
          obtain ⟨h, hd⟩ := ts_ix_s hd
          refine mm_s2 hc hw h dM_write_74 (fun H locs hw => ?_)
          refine lv_aload_n hx hb dM_write_75 rfl (lv_at hl 0 rfl) ?_
          refine lv_iload_n hx hb dM_write_76 rfl (lv_at hl 1 rfl) ?_
          obtain ⟨r77, u77, hq, hd⟩ := ts_b_s hd
          refine cM_80 hc hn hw hq hl.1 ⟨Nat.le_of_ble_eq_true rfl, Nat.le_of_ble_eq_true rfl⟩ (Nat.le_of_ble_eq_true rfl) dM_write_77 (fun H locs hw => ?_)
          refine lv_iconst (v := 0) hx hb dM_write_80 (by decide) ?_
          exact ts_iret hx hb hr hlk (vp_nar_int _) hw hd dM_write_81
        · replace hd := ts_if_p cq hd
          refine lv_aload_n hx hb dM_write_46 rfl (lv_at hl 0 rfl) ?_
          refine lv_iload_n hx hb dM_write_47 rfl (lv_at hl 1 rfl) ?_
          obtain ⟨r48, u48, hq, hd⟩ := ts_b_s hd
          refine cM_87 hc hn hw hq hl.1 ⟨Nat.le_of_ble_eq_true rfl, Nat.le_of_ble_eq_true rfl⟩ (Nat.le_of_ble_eq_true rfl) dM_write_48 (fun H locs hw => ?_)
          refine lv_if_ne (tgt := 57) hx hb dM_write_51 (by decide) (fun cq => ?_) (fun cq => ?_)
          · replace hd := ts_if_n cq hd
            refine lv_aload_n hx hb dM_write_57 rfl (lv_at hl 0 rfl) ?_
            refine gM_16 hc hn hw dM_write_58 ?_
            refine lv_iload_n hx hb dM_write_61 rfl (lv_at hl 1 rfl) ?_
            refine lv_iconst (v := 4) hx hb dM_write_62 (by decide) ?_
            refine lv_imul hx hb dM_write_63 ?_
            refine lv_iload_n hx hb dM_write_64 rfl (lv_at hl 2 rfl) ?_
            refine lv_iadd hx hb dM_write_65 ?_
            refine lv_iload_n hx hb dM_write_66 rfl (lv_at hl 3 rfl) ?_
            obtain ⟨h, hd⟩ := ts_ix_s hd
            refine mm_s4 hc hw h dM_write_67 (fun H locs hw => ?_)
            refine lv_aload_n hx hb dM_write_68 rfl (lv_at hl 0 rfl) ?_
            refine gM_7 hc hn hw dM_write_69 ?_
            refine lv_iload_n hx hb dM_write_72 rfl (lv_at hl 1 rfl) ?_
            refine lv_iconst (v := 1) hx hb dM_write_73 (by decide) ?_
            obtain ⟨h, hd⟩ := ts_ix_s hd
            refine mm_s2 hc hw h dM_write_74 (fun H locs hw => ?_)
            refine lv_aload_n hx hb dM_write_75 rfl (lv_at hl 0 rfl) ?_
            refine lv_iload_n hx hb dM_write_76 rfl (lv_at hl 1 rfl) ?_
            obtain ⟨r77, u77, hq, hd⟩ := ts_b_s hd
            refine cM_80 hc hn hw hq hl.1 ⟨Nat.le_of_ble_eq_true rfl, Nat.le_of_ble_eq_true rfl⟩ (Nat.le_of_ble_eq_true rfl) dM_write_77 (fun H locs hw => ?_)
            refine lv_iconst (v := 0) hx hb dM_write_80 (by decide) ?_
            exact ts_iret hx hb hr hlk (vp_nar_int _) hw hd dM_write_81
          · replace hd := ts_if_p cq hd
            refine lv_bipush (v := (-2)) hx hb dM_write_54 (by decide) ?_
            exact ts_iret hx hb hr hlk (vp_nar_int _) hw hd dM_write_56
      · replace hd := ts_if_p cq hd
        refine lv_bipush (v := (-3)) hx hb dM_write_33 (by decide) ?_
        exact ts_iret hx hb hr hlk (vp_nar_int _) hw hd dM_write_35
    · replace hd := ts_if_p cq hd
      refine lv_iconst (v := (-1)) hx hb dM_write_21 (by decide) ?_
      exact ts_iret hx hb hr hlk (vp_nar_int _) hw hd dM_write_22
def rM_read : Room := { frames := 3, cells := 0, slots := 0, locals := 67 }
set_option maxHeartbeats 4000000 in
set_option maxRecDepth 100000 in
theorem cm_read (l : Launch) {u : ts_S} {x1 x2 : Int32} {r0 : Int64} {u0 : ts_S} (hd : dm_read u x1 x2 = some (r0, u0)) : ts_Cl mF l yM_read (.code yM_read bM_read 3 (some .long) :: uW) rM_read (fun ad => [.ref (ad 0), .int x1, .int x2]) u r0 u0 := by
  refine ts_in_l mF l (by decide) (fun p e s m args below meth c D ca ad A hc hn hr hlk hw => ?_)
  have hx := hc.1
  have hb := hc.2.1
  have hl := lv_entry ([.ref (ad 0), .int x1, .int x2]) (n := 3) (Nat.le_of_ble_eq_true rfl)
  rw [lg_entry_eq]
  generalize (lg_sl ([.ref (ad 0), .int x1, .int x2]) ++ List.replicate (3 - (lg_sl ([.ref (ad 0), .int x1, .int x2])).length) Slot.unset).toArray = ls at hl ⊢
  replace hl : lv_has ls 3 [(0, .ref (ad 0)), (1, .int x1), (2, .int x2)] := hl
  unfold dm_read at hd
  refine lv_aload_n hx hb dM_read_0 rfl (lv_at hl 0 rfl) ?_
  refine lv_iload_n hx hb dM_read_1 rfl (lv_at hl 1 rfl) ?_
  obtain ⟨r2, u2, hq, hd⟩ := ts_b_s hd
  refine cM_84 hc hn hw hq hl.1 ⟨Nat.le_of_ble_eq_true rfl, Nat.le_of_ble_eq_true rfl⟩ (Nat.le_of_ble_eq_true rfl) dM_read_2 (fun H locs hw => ?_)
  refine lv_if_eq (tgt := 21) hx hb dM_read_5 (by decide) (fun cq => ?_) (fun cq => ?_)
  · replace hd := ts_if_p cq hd
    refine lv_ldc2 (v := (-1000000000000)) hx hb hc.2.2.2.1 (hc.2.2.2.2 _ (kM_90)) dM_read_21 ?_
    exact ts_lret hx hb hr hlk hw hd dM_read_24
  · replace hd := ts_if_n cq hd
    refine lv_iload_n hx hb dM_read_8 rfl (lv_at hl 2 rfl) ?_
    refine lv_aload_n hx hb dM_read_9 rfl (lv_at hl 0 rfl) ?_
    refine gM_13 hc hn hw dM_read_10 ?_
    refine lv_iload_n hx hb dM_read_13 rfl (lv_at hl 1 rfl) ?_
    obtain ⟨h, hd⟩ := ts_ix_s hd
    refine mm_l3 hc hw h dM_read_14 ?_
    obtain ⟨r15, u15, hq, hd⟩ := ts_b_s hd
    refine cM_51 hc hn hw hq hl.1 ⟨Nat.le_of_ble_eq_true rfl, Nat.le_of_ble_eq_true rfl⟩ (Nat.le_of_ble_eq_true rfl) dM_read_15 (fun H locs hw => ?_)
    refine lv_if_ne (tgt := 25) hx hb dM_read_18 (by decide) (fun cq => ?_) (fun cq => ?_)
    · replace hd := ts_if_n cq hd
      refine lv_aload_n hx hb dM_read_25 rfl (lv_at hl 0 rfl) ?_
      refine gM_7 hc hn hw dM_read_26 ?_
      refine lv_iload_n hx hb dM_read_29 rfl (lv_at hl 1 rfl) ?_
      obtain ⟨h, hd⟩ := ts_ix_s hd
      refine mm_l2 hc hw h dM_read_30 ?_
      refine lv_iconst (v := 4) hx hb dM_read_31 (by decide) ?_
      refine lv_icmp_ne (tgt := 39) hx hb dM_read_32 (by decide) (fun cq => ?_) (fun cq => ?_)
      · replace hd := ts_if_n cq hd
        refine lv_aload_n hx hb dM_read_39 rfl (lv_at hl 0 rfl) ?_
        refine gM_7 hc hn hw dM_read_40 ?_
        refine lv_iload_n hx hb dM_read_43 rfl (lv_at hl 1 rfl) ?_
        obtain ⟨h, hd⟩ := ts_ix_s hd
        refine mm_l2 hc hw h dM_read_44 ?_
        refine lv_iconst (v := 3) hx hb dM_read_45 (by decide) ?_
        refine lv_icmp_ne (tgt := 61) hx hb dM_read_46 (by decide) (fun cq => ?_) (fun cq => ?_)
        · replace hd := ts_if_n cq hd
          refine lv_aload_n hx hb dM_read_61 rfl (lv_at hl 0 rfl) ?_
          refine lv_iload_n hx hb dM_read_62 rfl (lv_at hl 1 rfl) ?_
          obtain ⟨r63, u63, hq, hd⟩ := ts_b_s hd
          refine cM_80 hc hn hw hq hl.1 ⟨Nat.le_of_ble_eq_true rfl, Nat.le_of_ble_eq_true rfl⟩ (Nat.le_of_ble_eq_true rfl) dM_read_63 (fun H locs hw => ?_)
          refine lv_aload_n hx hb dM_read_66 rfl (lv_at hl 0 rfl) ?_
          refine gM_16 hc hn hw dM_read_67 ?_
          refine lv_iload_n hx hb dM_read_70 rfl (lv_at hl 1 rfl) ?_
          refine lv_iconst (v := 4) hx hb dM_read_71 (by decide) ?_
          refine lv_imul hx hb dM_read_72 ?_
          refine lv_iload_n hx hb dM_read_73 rfl (lv_at hl 2 rfl) ?_
          refine lv_iadd hx hb dM_read_74 ?_
          obtain ⟨h, hd⟩ := ts_ix_s hd
          refine mm_l4 hc hw h dM_read_75 ?_
          refine lv_i2l hx hb dM_read_76 rfl ?_
          exact ts_lret hx hb hr hlk hw hd dM_read_77
        · replace hd := ts_if_p cq hd
          refine lv_aload_n hx hb dM_read_49 rfl (lv_at hl 0 rfl) ?_
          refine lv_iload_n hx hb dM_read_50 rfl (lv_at hl 1 rfl) ?_
          obtain ⟨r51, u51, hq, hd⟩ := ts_b_s hd
          refine cM_87 hc hn hw hq hl.1 ⟨Nat.le_of_ble_eq_true rfl, Nat.le_of_ble_eq_true rfl⟩ (Nat.le_of_ble_eq_true rfl) dM_read_51 (fun H locs hw => ?_)
          refine lv_if_ne (tgt := 61) hx hb dM_read_54 (by decide) (fun cq => ?_) (fun cq => ?_)
          · replace hd := ts_if_n cq hd
            refine lv_aload_n hx hb dM_read_61 rfl (lv_at hl 0 rfl) ?_
            refine lv_iload_n hx hb dM_read_62 rfl (lv_at hl 1 rfl) ?_
            obtain ⟨r63, u63, hq, hd⟩ := ts_b_s hd
            refine cM_80 hc hn hw hq hl.1 ⟨Nat.le_of_ble_eq_true rfl, Nat.le_of_ble_eq_true rfl⟩ (Nat.le_of_ble_eq_true rfl) dM_read_63 (fun H locs hw => ?_)
            refine lv_aload_n hx hb dM_read_66 rfl (lv_at hl 0 rfl) ?_
            refine gM_16 hc hn hw dM_read_67 ?_
            refine lv_iload_n hx hb dM_read_70 rfl (lv_at hl 1 rfl) ?_
            refine lv_iconst (v := 4) hx hb dM_read_71 (by decide) ?_
            refine lv_imul hx hb dM_read_72 ?_
            refine lv_iload_n hx hb dM_read_73 rfl (lv_at hl 2 rfl) ?_
            refine lv_iadd hx hb dM_read_74 ?_
            obtain ⟨h, hd⟩ := ts_ix_s hd
            refine mm_l4 hc hw h dM_read_75 ?_
            refine lv_i2l hx hb dM_read_76 rfl ?_
            exact ts_lret hx hb hr hlk hw hd dM_read_77
          · replace hd := ts_if_p cq hd
            refine lv_ldc2 (v := (-2000000000000)) hx hb hc.2.2.2.1 (hc.2.2.2.2 _ (kM_94)) dM_read_57 ?_
            exact ts_lret hx hb hr hlk hw hd dM_read_60
      · replace hd := ts_if_p cq hd
        refine lv_ldc2 (v := (-3000000000000)) hx hb hc.2.2.2.1 (hc.2.2.2.2 _ (kM_92)) dM_read_35 ?_
        exact ts_lret hx hb hr hlk hw hd dM_read_38
    · replace hd := ts_if_p cq hd
      refine lv_ldc2 (v := (-1000000000000)) hx hb hc.2.2.2.1 (hc.2.2.2.2 _ (kM_90)) dM_read_21 ?_
      exact ts_lret hx hb hr hlk hw hd dM_read_24
