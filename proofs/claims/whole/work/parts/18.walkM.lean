def rM_copied : Room := { frames := 0, cells := 0, slots := 0, locals := 0 }
set_option maxHeartbeats 4000000 in
set_option maxRecDepth 100000 in
theorem cm_copied (l : Launch) {u : ts_S} {x1 : Int32} {r0 : Int32} {u0 : ts_S} (hd : dm_copied u x1 = some (r0, u0)) : ts_Ci mF l yM_copied (.code yM_copied bM_copied 2 (some .boolean) :: uW) rM_copied (fun ad => [.ref (ad 0), .int x1]) u r0 u0 := by
  refine ts_in_i mF l (by decide) (fun p e s m args below meth c D ca ad A hc hn hr hlk hw => ?_)
  have hx := hc.1
  have hb := hc.2.1
  have hl := lv_entry ([.ref (ad 0), .int x1]) (n := 2) (Nat.le_of_ble_eq_true rfl)
  rw [lg_entry_eq]
  generalize (lg_sl ([.ref (ad 0), .int x1]) ++ List.replicate (2 - (lg_sl ([.ref (ad 0), .int x1])).length) Slot.unset).toArray = ls at hl ⊢
  replace hl : lv_has ls 2 [(0, .ref (ad 0)), (1, .int x1)] := hl
  unfold dm_copied at hd
  refine lv_aload_n hx hb dM_copied_0 rfl (lv_at hl 0 rfl) ?_
  refine gM_7 hc hn hw dM_copied_1 ?_
  refine lv_iload_n hx hb dM_copied_4 rfl (lv_at hl 1 rfl) ?_
  obtain ⟨h, hd⟩ := ts_ix_s hd
  refine mm_l2 hc hw h dM_copied_5 ?_
  refine lv_iconst (v := 2) hx hb dM_copied_6 (by decide) ?_
  refine lv_icmp_eq (tgt := 20) hx hb dM_copied_7 (by decide) (fun cq => ?_) (fun cq => ?_)
  · replace hd := ts_if_p cq hd
    refine lv_iconst (v := 1) hx hb dM_copied_20 (by decide) ?_
    refine lv_goto (tgt := 25) hx hb dM_copied_21 (by decide) ?_
    exact ts_iret hx hb hr hlk (by decide +kernel) hw hd dM_copied_25
  · replace hd := ts_if_n cq hd
    refine lv_aload_n hx hb dM_copied_10 rfl (lv_at hl 0 rfl) ?_
    refine gM_7 hc hn hw dM_copied_11 ?_
    refine lv_iload_n hx hb dM_copied_14 rfl (lv_at hl 1 rfl) ?_
    obtain ⟨h, hd⟩ := ts_ix_s hd
    refine mm_l2 hc hw h dM_copied_15 ?_
    refine lv_iconst (v := 3) hx hb dM_copied_16 (by decide) ?_
    refine lv_icmp_ne (tgt := 24) hx hb dM_copied_17 (by decide) (fun cq => ?_) (fun cq => ?_)
    · replace hd := ts_if_n cq hd
      refine lv_iconst (v := 0) hx hb dM_copied_24 (by decide) ?_
      exact ts_iret hx hb hr hlk (by decide +kernel) hw hd dM_copied_25
    · replace hd := ts_if_p cq hd
      refine lv_iconst (v := 1) hx hb dM_copied_20 (by decide) ?_
      refine lv_goto (tgt := 25) hx hb dM_copied_21 (by decide) ?_
      exact ts_iret hx hb hr hlk (by decide +kernel) hw hd dM_copied_25
section
variable {p : Program} {l : Launch} {e : Env} {R : Room} {s : State} {m : MethodId} {args : Array Value} {below : List Frame} {meth : Method} {c : Code} {H : Heap} {locs : List Loc} {Q : State → Prop} {cc : ByteArray} {pc nL : Nat} {ls : Array Slot} {rest : List Value} {D : va_G} {ca : Nat → ClassId} {ad : Nat → Nat} {A : Nat → Prop} {u : ts_S} {cells slots : Nat}
theorem cM_105 (hc : CallFix p m c cc nL s args uW RM) (hn : nx s) (hw : ts_W mF D ca ad A s H locs u) {x1 : Int32} {r0 : Int32} {u0 : ts_S} (hq : dm_copied u x1 = some (r0, u0)) (hsz : ls.size = nL) (hR : rM_copied.frames + 1 ≤ R.frames ∧ 8 + (2 + 11) + rM_copied.locals ≤ R.locals) (hrest : (rest.map fun v => v.category).sum ≤ 8) (hdg : decode cc pc = .ok (.invokevirtual 105, 3)) (kk : ∀ (H1 : Heap) (locs1 : List Loc), ts_W mF D ca ad A s H1 locs1 u0 → W p l e R s m args below meth c H1 locs1 0 0 Q (F0 m (pc + 3) ls (.int r0 :: rest))) : W p l e R s m args below meth c H locs 0 0 Q (F0 m pc ls (.int x1 :: .ref (ad 0) :: rest)) :=
  ts_callVi (b := ad 0) (As := [.int x1]) hc hn hw (cm_copied l hq) rfl (cwV 1 hc.2.2.2.2 (gd_V (by decide +kernel) (by decide +kernel) (by decide +kernel) (by decide +kernel) (code_M_copied)) rfl rfl rfl (by decide +kernel) hR) (va_recv hw.2.2.2.1 hw.1 (ci := 2) (q0 := 0) rfl rfl) rfl hsz hrest hdg kk
end
def rM_next : Room := { frames := 1, cells := 0, slots := 0, locals := 21 }
set_option maxHeartbeats 4000000 in
set_option maxRecDepth 100000 in
theorem cm_next (l : Launch) {u : ts_S} {x1 x2 : Int32} {r0 : Int32} {u0 : ts_S} (hd : dm_next u x1 x2 = some (r0, u0)) : ts_Ci mF l yM_next (.code yM_next bM_next 6 (some .int) :: uW) rM_next (fun ad => [.ref (ad 0), .int x1, .int x2]) u r0 u0 := by
  refine ts_in_i mF l (by decide) (fun p e s m args below meth c D ca ad A hc hn hr hlk hw => ?_)
  have hx := hc.1
  have hb := hc.2.1
  have hl := lv_entry ([.ref (ad 0), .int x1, .int x2]) (n := 6) (Nat.le_of_ble_eq_true rfl)
  rw [lg_entry_eq]
  generalize (lg_sl ([.ref (ad 0), .int x1, .int x2]) ++ List.replicate (6 - (lg_sl ([.ref (ad 0), .int x1, .int x2])).length) Slot.unset).toArray = ls at hl ⊢
  replace hl : lv_has ls 6 [(0, .ref (ad 0)), (1, .int x1), (2, .int x2)] := hl
  have L5 : ∀ (n : Nat) (u : ts_S) (x1 x2 x3 x4 : Int32) (H : Heap) (locs : List Loc) (ls : Array Slot), dm_next_5 n u x1 x2 x3 x4 = some (r0, u0) → ts_W mF D ca ad A s H locs u → lv_has ls 6 [(0, .ref (ad 0)), (1, .int x1), (2, .int x2), (3, .int x3), (4, .int x4)] → W p l e rM_next s m args below meth c H locs 0 0 (MQ below (va_Qi (fun r v => r = r0 ∧ v = u0) (ts_post mF D ca ad A) A) args s 0 0 A) (F0 m 5 ls []) := by
    intro n
    induction n with
    | zero => intro u x1 x2 x3 x4 H locs ls hd; cases (show (none : Option (Int32 × ts_S)) = some (r0, u0) from hd)
    | succ n5 ih5 =>
      intro u x1 x2 x3 x4 H locs ls hd hw hl
      replace hd : dm_next_5_b (dm_next_5 n5) u x1 x2 x3 x4 = some (r0, u0) := hd
      unfold dm_next_5_b at hd
      refine lv_iload hx hb dM_next_5 (lv_at hl 4 rfl) ?_
      refine lv_bipush (v := 16) hx hb dM_next_7 (by decide) ?_
      refine lv_icmp_ge (tgt := 84) hx hb dM_next_9 (by decide) (fun cq => ?_) (fun cq => ?_)
      · replace hd := ts_if_p cq hd
        refine lv_iload_n hx hb dM_next_84 rfl (lv_at hl 3 rfl) ?_
        exact ts_iret hx hb hr hlk (vp_nar_int _) hw hd dM_next_85
      · replace hd := ts_if_n cq hd
        refine lv_aload_n hx hb dM_next_12 rfl (lv_at hl 0 rfl) ?_
        refine lv_iload hx hb dM_next_13 (lv_at hl 4 rfl) ?_
        obtain ⟨r15, u15, hq, hd⟩ := ts_b_s hd
        refine cM_105 hc hn hw hq hl.1 ⟨Nat.le_of_ble_eq_true rfl, Nat.le_of_ble_eq_true rfl⟩ (Nat.le_of_ble_eq_true rfl) dM_next_15 (fun H locs hw => ?_)
        refine lv_if_eq (tgt := 47) hx hb dM_next_18 (by decide) (fun cq => ?_) (fun cq => ?_)
        · replace hd := ts_if_p cq hd
          refine lv_iconst (v := 0) hx hb dM_next_47 (by decide) ?_
          refine lv_istore (lv' := [(5, .int 0), (0, .ref (ad 0)), (1, .int x1), (2, .int x2), (3, .int x3), (4, .int x4)]) hx hb dM_next_48 hl (by decide) rfl (fun ls hl => ?_)
          refine lv_iload hx hb dM_next_50 (lv_at hl 0 rfl) ?_
          refine lv_if_eq (tgt := 78) hx hb dM_next_52 (by decide) (fun cq => ?_) (fun cq => ?_)
          · refine lv_iinc (v := (x4 + 1)) (lv' := [(4, .int (x4 + 1)), (5, .int 0), (0, .ref (ad 0)), (1, .int x1), (2, .int x2), (3, .int x3)]) hx hb dM_next_78 hl (k := 5) rfl rfl (by decide) rfl (fun ls hl => ?_)
            refine lv_goto (tgt := 5) hx hb dM_next_81 (by decide) ?_
            exact ih5 u15 x1 x2 x3 (x4 + 1) _ _ _ hd hw (lv_sub hl [2, 3, 4, 5, 0] rfl)
          · exact absurd cq (by decide)
        · replace hd := ts_if_n cq hd
          refine lv_aload_n hx hb dM_next_21 rfl (lv_at hl 0 rfl) ?_
          refine gM_22 hc hn hw dM_next_22 ?_
          refine lv_iload hx hb dM_next_25 (lv_at hl 4 rfl) ?_
          obtain ⟨h, hd⟩ := ts_ix_s hd
          refine mm_l5 hc hw h dM_next_27 ?_
          refine lv_iload_n hx hb dM_next_28 rfl (lv_at hl 1 rfl) ?_
          refine lv_icmp_ne (tgt := 47) hx hb dM_next_29 (by decide) (fun cq => ?_) (fun cq => ?_)
          · replace hd := ts_if_n cq hd
            refine lv_iconst (v := 0) hx hb dM_next_47 (by decide) ?_
            refine lv_istore (lv' := [(5, .int 0), (0, .ref (ad 0)), (1, .int x1), (2, .int x2), (3, .int x3), (4, .int x4)]) hx hb dM_next_48 hl (by decide) rfl (fun ls hl => ?_)
            refine lv_iload hx hb dM_next_50 (lv_at hl 0 rfl) ?_
            refine lv_if_eq (tgt := 78) hx hb dM_next_52 (by decide) (fun cq => ?_) (fun cq => ?_)
            · refine lv_iinc (v := (x4 + 1)) (lv' := [(4, .int (x4 + 1)), (5, .int 0), (0, .ref (ad 0)), (1, .int x1), (2, .int x2), (3, .int x3)]) hx hb dM_next_78 hl (k := 5) rfl rfl (by decide) rfl (fun ls hl => ?_)
              refine lv_goto (tgt := 5) hx hb dM_next_81 (by decide) ?_
              exact ih5 u15 x1 x2 x3 (x4 + 1) _ _ _ hd hw (lv_sub hl [2, 3, 4, 5, 0] rfl)
            · exact absurd cq (by decide)
          · replace hd := ts_if_p cq hd
            refine lv_aload_n hx hb dM_next_32 rfl (lv_at hl 0 rfl) ?_
            refine gM_25 hc hn hw dM_next_33 ?_
            refine lv_iload hx hb dM_next_36 (lv_at hl 4 rfl) ?_
            obtain ⟨h, hd⟩ := ts_ix_s hd
            refine mm_l6 hc hw h dM_next_38 ?_
            refine lv_iload_n hx hb dM_next_39 rfl (lv_at hl 2 rfl) ?_
            refine lv_icmp_lt (tgt := 47) hx hb dM_next_40 (by decide) (fun cq => ?_) (fun cq => ?_)
            · replace hd := ts_if_p cq hd
              refine lv_iconst (v := 0) hx hb dM_next_47 (by decide) ?_
              refine lv_istore (lv' := [(5, .int 0), (0, .ref (ad 0)), (1, .int x1), (2, .int x2), (3, .int x3), (4, .int x4)]) hx hb dM_next_48 hl (by decide) rfl (fun ls hl => ?_)
              refine lv_iload hx hb dM_next_50 (lv_at hl 0 rfl) ?_
              refine lv_if_eq (tgt := 78) hx hb dM_next_52 (by decide) (fun cq => ?_) (fun cq => ?_)
              · refine lv_iinc (v := (x4 + 1)) (lv' := [(4, .int (x4 + 1)), (5, .int 0), (0, .ref (ad 0)), (1, .int x1), (2, .int x2), (3, .int x3)]) hx hb dM_next_78 hl (k := 5) rfl rfl (by decide) rfl (fun ls hl => ?_)
                refine lv_goto (tgt := 5) hx hb dM_next_81 (by decide) ?_
                exact ih5 u15 x1 x2 x3 (x4 + 1) _ _ _ hd hw (lv_sub hl [2, 3, 4, 5, 0] rfl)
              · exact absurd cq (by decide)
            · replace hd := ts_if_n cq hd
              refine lv_iconst (v := 1) hx hb dM_next_43 (by decide) ?_
              refine lv_goto (tgt := 48) hx hb dM_next_44 (by decide) ?_
              refine lv_istore (lv' := [(5, .int 1), (0, .ref (ad 0)), (1, .int x1), (2, .int x2), (3, .int x3), (4, .int x4)]) hx hb dM_next_48 hl (by decide) rfl (fun ls hl => ?_)
              refine lv_iload hx hb dM_next_50 (lv_at hl 0 rfl) ?_
              refine lv_if_eq (tgt := 78) hx hb dM_next_52 (by decide) (fun cq => ?_) (fun cq => ?_)
              · exact absurd cq (by decide)
              · refine lv_iload_n hx hb dM_next_55 rfl (lv_at hl 4 rfl) ?_
                refine lv_if_lt (tgt := 75) hx hb dM_next_56 (by decide) (fun cq => ?_) (fun cq => ?_)
                · replace hd := ts_if_p cq hd
                  refine lv_iload hx hb dM_next_75 (lv_at hl 5 rfl) ?_
                  refine lv_istore_n (lv' := [(3, .int x4), (5, .int 1), (0, .ref (ad 0)), (1, .int x1), (2, .int x2), (4, .int x4)]) hx hb dM_next_77 rfl hl (by decide) rfl (fun ls hl => ?_)
                  refine lv_iinc (v := (x4 + 1)) (lv' := [(4, .int (x4 + 1)), (3, .int x4), (5, .int 1), (0, .ref (ad 0)), (1, .int x1), (2, .int x2)]) hx hb dM_next_78 hl (k := 5) rfl rfl (by decide) rfl (fun ls hl => ?_)
                  refine lv_goto (tgt := 5) hx hb dM_next_81 (by decide) ?_
                  exact ih5 u15 x1 x2 x4 (x4 + 1) _ _ _ hd hw (lv_sub hl [3, 4, 5, 1, 0] rfl)
                · replace hd := ts_if_n cq hd
                  refine lv_aload_n hx hb dM_next_59 rfl (lv_at hl 1 rfl) ?_
                  refine gM_25 hc hn hw dM_next_60 ?_
                  refine lv_iload hx hb dM_next_63 (lv_at hl 5 rfl) ?_
                  obtain ⟨h, hd⟩ := ts_ix_s hd
                  refine mm_l6 hc hw h dM_next_65 ?_
                  refine lv_aload_n hx hb dM_next_66 rfl (lv_at hl 1 rfl) ?_
                  refine gM_25 hc hn hw dM_next_67 ?_
                  refine lv_iload_n hx hb dM_next_70 rfl (lv_at hl 4 rfl) ?_
                  obtain ⟨h, hd⟩ := ts_ix_s hd
                  refine mm_l6 hc hw h dM_next_71 ?_
                  refine lv_icmp_ge (tgt := 78) hx hb dM_next_72 (by decide) (fun cq => ?_) (fun cq => ?_)
                  · replace hd := ts_if_p cq hd
                    refine lv_iinc (v := (x4 + 1)) (lv' := [(4, .int (x4 + 1)), (5, .int 1), (0, .ref (ad 0)), (1, .int x1), (2, .int x2), (3, .int x3)]) hx hb dM_next_78 hl (k := 5) rfl rfl (by decide) rfl (fun ls hl => ?_)
                    refine lv_goto (tgt := 5) hx hb dM_next_81 (by decide) ?_
                    exact ih5 u15 x1 x2 x3 (x4 + 1) _ _ _ hd hw (lv_sub hl [2, 3, 4, 5, 0] rfl)
                  · replace hd := ts_if_n cq hd
                    refine lv_iload hx hb dM_next_75 (lv_at hl 5 rfl) ?_
                    refine lv_istore_n (lv' := [(3, .int x4), (5, .int 1), (0, .ref (ad 0)), (1, .int x1), (2, .int x2), (4, .int x4)]) hx hb dM_next_77 rfl hl (by decide) rfl (fun ls hl => ?_)
                    refine lv_iinc (v := (x4 + 1)) (lv' := [(4, .int (x4 + 1)), (3, .int x4), (5, .int 1), (0, .ref (ad 0)), (1, .int x1), (2, .int x2)]) hx hb dM_next_78 hl (k := 5) rfl rfl (by decide) rfl (fun ls hl => ?_)
                    refine lv_goto (tgt := 5) hx hb dM_next_81 (by decide) ?_
                    exact ih5 u15 x1 x2 x4 (x4 + 1) _ _ _ hd hw (lv_sub hl [3, 4, 5, 1, 0] rfl)
  unfold dm_next at hd
  refine lv_iconst (v := (-1)) hx hb dM_next_0 (by decide) ?_
  refine lv_istore_n (lv' := [(3, .int (-1)), (0, .ref (ad 0)), (1, .int x1), (2, .int x2)]) hx hb dM_next_1 rfl hl (by decide) rfl (fun ls hl => ?_)
  refine lv_iconst (v := 0) hx hb dM_next_2 (by decide) ?_
  refine lv_istore (lv' := [(4, .int 0), (3, .int (-1)), (0, .ref (ad 0)), (1, .int x1), (2, .int x2)]) hx hb dM_next_3 hl (by decide) rfl (fun ls hl => ?_)
  exact L5 40 u x1 x2 (-1) 0 _ _ _ hd hw (lv_sub hl [2, 3, 4, 1, 0] rfl)
section
variable {p : Program} {l : Launch} {e : Env} {R : Room} {s : State} {m : MethodId} {args : Array Value} {below : List Frame} {meth : Method} {c : Code} {H : Heap} {locs : List Loc} {Q : State → Prop} {cc : ByteArray} {pc nL : Nat} {ls : Array Slot} {rest : List Value} {D : va_G} {ca : Nat → ClassId} {ad : Nat → Nat} {A : Nat → Prop} {u : ts_S} {cells slots : Nat}
theorem cM_108 (hc : CallFix p m c cc nL s args uW RM) (hn : nx s) (hw : ts_W mF D ca ad A s H locs u) {x1 x2 : Int32} {r0 : Int32} {u0 : ts_S} (hq : dm_next u x1 x2 = some (r0, u0)) (hsz : ls.size = nL) (hR : rM_next.frames + 1 ≤ R.frames ∧ 8 + (6 + 11) + rM_next.locals ≤ R.locals) (hrest : (rest.map fun v => v.category).sum ≤ 8) (hdg : decode cc pc = .ok (.invokevirtual 108, 3)) (kk : ∀ (H1 : Heap) (locs1 : List Loc), ts_W mF D ca ad A s H1 locs1 u0 → W p l e R s m args below meth c H1 locs1 0 0 Q (F0 m (pc + 3) ls (.int r0 :: rest))) : W p l e R s m args below meth c H locs 0 0 Q (F0 m pc ls (.int x2 :: .int x1 :: .ref (ad 0) :: rest)) :=
  ts_callVi (b := ad 0) (As := [.int x1, .int x2]) hc hn hw (cm_next l hq) rfl (cwV 2 hc.2.2.2.2 (gd_V (by decide +kernel) (by decide +kernel) (by decide +kernel) (by decide +kernel) (code_M_next)) rfl rfl rfl (by decide +kernel) hR) (va_recv hw.2.2.2.1 hw.1 (ci := 2) (q0 := 0) rfl rfl) rfl hsz hrest hdg kk
end
def rM_canEmpty : Room := { frames := 2, cells := 0, slots := 0, locals := 46 }
set_option maxHeartbeats 4000000 in
set_option maxRecDepth 100000 in
theorem cm_canEmpty (l : Launch) {u : ts_S} {x1 : Int32} {r0 : Int32} {u0 : ts_S} (hd : dm_canEmpty u x1 = some (r0, u0)) : ts_Ci mF l yM_canEmpty (.code yM_canEmpty bM_canEmpty 6 (some .boolean) :: uW) rM_canEmpty (fun ad => [.ref (ad 0), .int x1]) u r0 u0 := by
  refine ts_in_i mF l (by decide) (fun p e s m args below meth c D ca ad A hc hn hr hlk hw => ?_)
  have hx := hc.1
  have hb := hc.2.1
  have hl := lv_entry ([.ref (ad 0), .int x1]) (n := 6) (Nat.le_of_ble_eq_true rfl)
  rw [lg_entry_eq]
  generalize (lg_sl ([.ref (ad 0), .int x1]) ++ List.replicate (6 - (lg_sl ([.ref (ad 0), .int x1])).length) Slot.unset).toArray = ls at hl ⊢
  replace hl : lv_has ls 6 [(0, .ref (ad 0)), (1, .int x1)] := hl
  have L34 : ∀ (n : Nat) (u : ts_S) (x1 x2 x3 : Int32) (H : Heap) (locs : List Loc) (ls : Array Slot), dm_canEmpty_34 n u x1 x2 x3 = some (r0, u0) → ts_W mF D ca ad A s H locs u → lv_has ls 6 [(0, .ref (ad 0)), (1, .int x1), (2, .int x2), (3, .int x3)] → W p l e rM_canEmpty s m args below meth c H locs 0 0 (MQ below (va_Qi (fun r v => r = r0 ∧ v = u0) (ts_post mF D ca ad A) A) args s 0 0 A) (F0 m 34 ls []) := by
    intro n
    induction n with
    | zero => intro u x1 x2 x3 H locs ls hd; cases (show (none : Option (Int32 × ts_S)) = some (r0, u0) from hd)
    | succ n34 ih34 =>
      intro u x1 x2 x3 H locs ls hd hw hl
      replace hd : dm_canEmpty_34_b (dm_canEmpty_34 n34) u x1 x2 x3 = some (r0, u0) := hd
      unfold dm_canEmpty_34_b at hd
      have L50 : ∀ (n : Nat) (u : ts_S) (x1 x2 x3 x4 x5 : Int32) (H : Heap) (locs : List Loc) (ls : Array Slot), dm_canEmpty_50 (dm_canEmpty_34 n34) n u x1 x2 x3 x4 x5 = some (r0, u0) → ts_W mF D ca ad A s H locs u → lv_has ls 6 [(0, .ref (ad 0)), (1, .int x1), (2, .int x2), (3, .int x3), (4, .int x4), (5, .int x5)] → W p l e rM_canEmpty s m args below meth c H locs 0 0 (MQ below (va_Qi (fun r v => r = r0 ∧ v = u0) (ts_post mF D ca ad A) A) args s 0 0 A) (F0 m 50 ls []) := by
        intro n
        induction n with
        | zero => intro u x1 x2 x3 x4 x5 H locs ls hd; cases (show (none : Option (Int32 × ts_S)) = some (r0, u0) from hd)
        | succ n50 ih50 =>
          intro u x1 x2 x3 x4 x5 H locs ls hd hw hl
          replace hd : dm_canEmpty_50_b (dm_canEmpty_34 n34) (dm_canEmpty_50 (dm_canEmpty_34 n34) n50) u x1 x2 x3 x4 x5 = some (r0, u0) := hd
          unfold dm_canEmpty_50_b at hd
          refine lv_iload hx hb dM_canEmpty_50 (lv_at hl 5 rfl) ?_
          refine lv_if_lt (tgt := 92) hx hb dM_canEmpty_52 (by decide) (fun cq => ?_) (fun cq => ?_)
          · replace hd := ts_if_p cq hd
            refine lv_iload hx hb dM_canEmpty_92 (lv_at hl 4 rfl) ?_
            refine lv_if_ge (tgt := 99) hx hb dM_canEmpty_94 (by decide) (fun cq => ?_) (fun cq => ?_)
            · replace hd := ts_if_p cq hd
              refine lv_aload_n hx hb dM_canEmpty_99 rfl (lv_at hl 0 rfl) ?_
              refine gM_35 hc hn hw dM_canEmpty_100 ?_
              refine lv_iload hx hb dM_canEmpty_103 (lv_at hl 4 rfl) ?_
              refine lv_dup2_11 hx hb dM_canEmpty_105 rfl rfl ?_
              obtain ⟨h, hd⟩ := ts_ix_s hd
              refine mm_l11 hc hw h dM_canEmpty_106 ?_
              refine lv_aload_n hx hb dM_canEmpty_107 rfl (lv_at hl 0 rfl) ?_
              refine gM_13 hc hn hw dM_canEmpty_108 ?_
              refine lv_iload_n hx hb dM_canEmpty_111 rfl (lv_at hl 2 rfl) ?_
              obtain ⟨h, hd⟩ := ts_ix_s hd
              refine mm_l3 hc hw h dM_canEmpty_112 ?_
              refine lv_iadd hx hb dM_canEmpty_113 ?_
              obtain ⟨h, hd⟩ := ts_ix_s hd
              refine mm_s11 hc hw h dM_canEmpty_114 (fun H locs hw => ?_)
              refine lv_aload_n hx hb dM_canEmpty_115 rfl (lv_at hl 0 rfl) ?_
              refine lv_iload_n hx hb dM_canEmpty_116 rfl (lv_at hl 1 rfl) ?_
              refine lv_aload_n hx hb dM_canEmpty_117 rfl (lv_at hl 0 rfl) ?_
              refine gM_25 hc hn hw dM_canEmpty_118 ?_
              refine lv_iload_n hx hb dM_canEmpty_121 rfl (lv_at hl 2 rfl) ?_
              obtain ⟨h, hd⟩ := ts_ix_s hd
              refine mm_l6 hc hw h dM_canEmpty_122 ?_
              refine lv_iconst (v := 1) hx hb dM_canEmpty_123 (by decide) ?_
              refine lv_iadd hx hb dM_canEmpty_124 ?_
              obtain ⟨r125, u125, hq, hd⟩ := ts_b_s hd
              refine cM_108 hc hn hw hq hl.1 ⟨Nat.le_of_ble_eq_true rfl, Nat.le_of_ble_eq_true rfl⟩ (Nat.le_of_ble_eq_true rfl) dM_canEmpty_125 (fun H locs hw => ?_)
              refine lv_istore_n (lv' := [(2, .int r125), (0, .ref (ad 0)), (1, .int x1), (3, .int x3), (4, .int x4), (5, .int x5)]) hx hb dM_canEmpty_128 rfl hl (by decide) rfl (fun ls hl => ?_)
              refine lv_iinc (v := (x3 + 1)) (lv' := [(3, .int (x3 + 1)), (2, .int r125), (0, .ref (ad 0)), (1, .int x1), (4, .int x4), (5, .int x5)]) hx hb dM_canEmpty_129 hl (k := 3) rfl rfl (by decide) rfl (fun ls hl => ?_)
              refine lv_goto (tgt := 34) hx hb dM_canEmpty_132 (by decide) ?_
              exact ih34 u125 x1 r125 (x3 + 1) _ _ _ hd hw (lv_sub hl [2, 3, 1, 0] rfl)
            · replace hd := ts_if_n cq hd
              refine lv_iconst (v := 0) hx hb dM_canEmpty_97 (by decide) ?_
              exact ts_iret hx hb hr hlk (by decide +kernel) hw hd dM_canEmpty_98
          · replace hd := ts_if_n cq hd
            refine lv_iload hx hb dM_canEmpty_55 (lv_at hl 5 rfl) ?_
            refine lv_iload_n hx hb dM_canEmpty_57 rfl (lv_at hl 1 rfl) ?_
            refine lv_icmp_eq (tgt := 86) hx hb dM_canEmpty_58 (by decide) (fun cq => ?_) (fun cq => ?_)
            · replace hd := ts_if_p cq hd
              refine lv_iinc (v := (x5 + (-1))) (lv' := [(5, .int (x5 + (-1))), (0, .ref (ad 0)), (1, .int x1), (2, .int x2), (3, .int x3), (4, .int x4)]) hx hb dM_canEmpty_86 hl (k := 5) rfl rfl (by decide) rfl (fun ls hl => ?_)
              refine lv_goto (tgt := 50) hx hb dM_canEmpty_89 (by decide) ?_
              exact ih50 u x1 x2 x3 x4 (x5 + (-1)) _ _ _ hd hw (lv_sub hl [1, 2, 3, 4, 5, 0] rfl)
            · replace hd := ts_if_n cq hd
              refine lv_aload_n hx hb dM_canEmpty_61 rfl (lv_at hl 0 rfl) ?_
              refine gM_35 hc hn hw dM_canEmpty_62 ?_
              refine lv_iload hx hb dM_canEmpty_65 (lv_at hl 5 rfl) ?_
              obtain ⟨h, hd⟩ := ts_ix_s hd
              refine mm_l11 hc hw h dM_canEmpty_67 ?_
              refine lv_aload_n hx hb dM_canEmpty_68 rfl (lv_at hl 0 rfl) ?_
              refine gM_13 hc hn hw dM_canEmpty_69 ?_
              refine lv_iload_n hx hb dM_canEmpty_72 rfl (lv_at hl 2 rfl) ?_
              obtain ⟨h, hd⟩ := ts_ix_s hd
              refine mm_l3 hc hw h dM_canEmpty_73 ?_
              refine lv_iadd hx hb dM_canEmpty_74 ?_
              refine lv_aload_n hx hb dM_canEmpty_75 rfl (lv_at hl 0 rfl) ?_
              refine gM_48 hc hn hw dM_canEmpty_76 ?_
              refine lv_icmp_gt (tgt := 86) hx hb dM_canEmpty_79 (by decide) (fun cq => ?_) (fun cq => ?_)
              · replace hd := ts_if_p cq hd
                refine lv_iinc (v := (x5 + (-1))) (lv' := [(5, .int (x5 + (-1))), (0, .ref (ad 0)), (1, .int x1), (2, .int x2), (3, .int x3), (4, .int x4)]) hx hb dM_canEmpty_86 hl (k := 5) rfl rfl (by decide) rfl (fun ls hl => ?_)
                refine lv_goto (tgt := 50) hx hb dM_canEmpty_89 (by decide) ?_
                exact ih50 u x1 x2 x3 x4 (x5 + (-1)) _ _ _ hd hw (lv_sub hl [1, 2, 3, 4, 5, 0] rfl)
              · replace hd := ts_if_n cq hd
                refine lv_iload hx hb dM_canEmpty_82 (lv_at hl 5 rfl) ?_
                refine lv_istore (lv' := [(4, .int x5), (0, .ref (ad 0)), (1, .int x1), (2, .int x2), (3, .int x3), (5, .int x5)]) hx hb dM_canEmpty_84 hl (by decide) rfl (fun ls hl => ?_)
                refine lv_iinc (v := (x5 + (-1))) (lv' := [(5, .int (x5 + (-1))), (4, .int x5), (0, .ref (ad 0)), (1, .int x1), (2, .int x2), (3, .int x3)]) hx hb dM_canEmpty_86 hl (k := 5) rfl rfl (by decide) rfl (fun ls hl => ?_)
                refine lv_goto (tgt := 50) hx hb dM_canEmpty_89 (by decide) ?_
                exact ih50 u x1 x2 x3 x5 (x5 + (-1)) _ _ _ hd hw (lv_sub hl [2, 3, 4, 5, 1, 0] rfl)
      refine lv_iload_n hx hb dM_canEmpty_34 rfl (lv_at hl 3 rfl) ?_
      refine lv_bipush (v := 16) hx hb dM_canEmpty_35 (by decide) ?_
      refine lv_icmp_ge (tgt := 135) hx hb dM_canEmpty_37 (by decide) (fun cq => ?_) (fun cq => ?_)
      · replace hd := ts_if_p cq hd
        refine lv_iconst (v := 1) hx hb dM_canEmpty_135 (by decide) ?_
        exact ts_iret hx hb hr hlk (by decide +kernel) hw hd dM_canEmpty_136
      · replace hd := ts_if_n cq hd
        refine lv_iload_n hx hb dM_canEmpty_40 rfl (lv_at hl 2 rfl) ?_
        refine lv_if_lt (tgt := 135) hx hb dM_canEmpty_41 (by decide) (fun cq => ?_) (fun cq => ?_)
        · replace hd := ts_if_p cq hd
          refine lv_iconst (v := 1) hx hb dM_canEmpty_135 (by decide) ?_
          exact ts_iret hx hb hr hlk (by decide +kernel) hw hd dM_canEmpty_136
        · replace hd := ts_if_n cq hd
          refine lv_iconst (v := (-1)) hx hb dM_canEmpty_44 (by decide) ?_
          refine lv_istore (lv' := [(4, .int (-1)), (0, .ref (ad 0)), (1, .int x1), (2, .int x2), (3, .int x3)]) hx hb dM_canEmpty_45 hl (by decide) rfl (fun ls hl => ?_)
          refine lv_iconst (v := 3) hx hb dM_canEmpty_47 (by decide) ?_
          refine lv_istore (lv' := [(5, .int 3), (4, .int (-1)), (0, .ref (ad 0)), (1, .int x1), (2, .int x2), (3, .int x3)]) hx hb dM_canEmpty_48 hl (by decide) rfl (fun ls hl => ?_)
          exact L50 40 u x1 x2 x3 (-1) 3 _ _ _ hd hw (lv_sub hl [2, 3, 4, 5, 1, 0] rfl)
  have L2 : ∀ (n : Nat) (u : ts_S) (x1 x2 : Int32) (H : Heap) (locs : List Loc) (ls : Array Slot), dm_canEmpty_2 n u x1 x2 = some (r0, u0) → ts_W mF D ca ad A s H locs u → lv_has ls 6 [(0, .ref (ad 0)), (1, .int x1), (2, .int x2)] → W p l e rM_canEmpty s m args below meth c H locs 0 0 (MQ below (va_Qi (fun r v => r = r0 ∧ v = u0) (ts_post mF D ca ad A) A) args s 0 0 A) (F0 m 2 ls []) := by
    intro n
    induction n with
    | zero => intro u x1 x2 H locs ls hd; cases (show (none : Option (Int32 × ts_S)) = some (r0, u0) from hd)
    | succ n2 ih2 =>
      intro u x1 x2 H locs ls hd hw hl
      replace hd : dm_canEmpty_2_b (dm_canEmpty_2 n2) u x1 x2 = some (r0, u0) := hd
      unfold dm_canEmpty_2_b at hd
      refine lv_iload_n hx hb dM_canEmpty_2 rfl (lv_at hl 2 rfl) ?_
      refine lv_iconst (v := 4) hx hb dM_canEmpty_3 (by decide) ?_
      refine lv_icmp_ge (tgt := 25) hx hb dM_canEmpty_4 (by decide) (fun cq => ?_) (fun cq => ?_)
      · replace hd := ts_if_p cq hd
        refine lv_aload_n hx hb dM_canEmpty_25 rfl (lv_at hl 0 rfl) ?_
        refine lv_iload_n hx hb dM_canEmpty_26 rfl (lv_at hl 1 rfl) ?_
        refine lv_iconst (v := 0) hx hb dM_canEmpty_27 (by decide) ?_
        obtain ⟨r28, u28, hq, hd⟩ := ts_b_s hd
        refine cM_108 hc hn hw hq hl.1 ⟨Nat.le_of_ble_eq_true rfl, Nat.le_of_ble_eq_true rfl⟩ (Nat.le_of_ble_eq_true rfl) dM_canEmpty_28 (fun H locs hw => ?_)
        refine lv_istore_n (lv' := [(2, .int r28), (0, .ref (ad 0)), (1, .int x1)]) hx hb dM_canEmpty_31 rfl hl (by decide) rfl (fun ls hl => ?_)
        refine lv_iconst (v := 0) hx hb dM_canEmpty_32 (by decide) ?_
        refine lv_istore_n (lv' := [(3, .int 0), (2, .int r28), (0, .ref (ad 0)), (1, .int x1)]) hx hb dM_canEmpty_33 rfl hl (by decide) rfl (fun ls hl => ?_)
        exact L34 40 u28 x1 r28 0 _ _ _ hd hw (lv_sub hl [2, 3, 1, 0] rfl)
      · replace hd := ts_if_n cq hd
        refine lv_aload_n hx hb dM_canEmpty_7 rfl (lv_at hl 0 rfl) ?_
        refine gM_35 hc hn hw dM_canEmpty_8 ?_
        refine lv_iload_n hx hb dM_canEmpty_11 rfl (lv_at hl 2 rfl) ?_
        refine lv_aload_n hx hb dM_canEmpty_12 rfl (lv_at hl 0 rfl) ?_
        refine gM_32 hc hn hw dM_canEmpty_13 ?_
        refine lv_iload_n hx hb dM_canEmpty_16 rfl (lv_at hl 2 rfl) ?_
        obtain ⟨h, hd⟩ := ts_ix_s hd
        refine mm_l10 hc hw h dM_canEmpty_17 ?_
        obtain ⟨h, hd⟩ := ts_ix_s hd
        refine mm_s11 hc hw h dM_canEmpty_18 (fun H locs hw => ?_)
        refine lv_iinc (v := (x2 + 1)) (lv' := [(2, .int (x2 + 1)), (0, .ref (ad 0)), (1, .int x1)]) hx hb dM_canEmpty_19 hl (k := 2) rfl rfl (by decide) rfl (fun ls hl => ?_)
        refine lv_goto (tgt := 2) hx hb dM_canEmpty_22 (by decide) ?_
        exact ih2 (ts_a 11 x2.toNatClampNeg (u.2 10 x2.toNatClampNeg) u) x1 (x2 + 1) _ _ _ hd hw (lv_sub hl [1, 2, 0] rfl)
  unfold dm_canEmpty at hd
  refine lv_iconst (v := 0) hx hb dM_canEmpty_0 (by decide) ?_
  refine lv_istore_n (lv' := [(2, .int 0), (0, .ref (ad 0)), (1, .int x1)]) hx hb dM_canEmpty_1 rfl hl (by decide) rfl (fun ls hl => ?_)
  exact L2 40 u x1 0 _ _ _ hd hw (lv_sub hl [1, 2, 0] rfl)
section
variable {p : Program} {l : Launch} {e : Env} {R : Room} {s : State} {m : MethodId} {args : Array Value} {below : List Frame} {meth : Method} {c : Code} {H : Heap} {locs : List Loc} {Q : State → Prop} {cc : ByteArray} {pc nL : Nat} {ls : Array Slot} {rest : List Value} {D : va_G} {ca : Nat → ClassId} {ad : Nat → Nat} {A : Nat → Prop} {u : ts_S} {cells slots : Nat}
theorem cM_112 (hc : CallFix p m c cc nL s args uW RM) (hn : nx s) (hw : ts_W mF D ca ad A s H locs u) {x1 : Int32} {r0 : Int32} {u0 : ts_S} (hq : dm_canEmpty u x1 = some (r0, u0)) (hsz : ls.size = nL) (hR : rM_canEmpty.frames + 1 ≤ R.frames ∧ 8 + (6 + 11) + rM_canEmpty.locals ≤ R.locals) (hrest : (rest.map fun v => v.category).sum ≤ 8) (hdg : decode cc pc = .ok (.invokevirtual 112, 3)) (kk : ∀ (H1 : Heap) (locs1 : List Loc), ts_W mF D ca ad A s H1 locs1 u0 → W p l e R s m args below meth c H1 locs1 0 0 Q (F0 m (pc + 3) ls (.int r0 :: rest))) : W p l e R s m args below meth c H locs 0 0 Q (F0 m pc ls (.int x1 :: .ref (ad 0) :: rest)) :=
  ts_callVi (b := ad 0) (As := [.int x1]) hc hn hw (cm_canEmpty l hq) rfl (cwV 1 hc.2.2.2.2 (gd_V (by decide +kernel) (by decide +kernel) (by decide +kernel) (by decide +kernel) (code_M_canEmpty)) rfl rfl rfl (by decide +kernel) hR) (va_recv hw.2.2.2.1 hw.1 (ci := 2) (q0 := 0) rfl rfl) rfl hsz hrest hdg kk
end
def rM_empty : Room := { frames := 3, cells := 0, slots := 0, locals := 71 }
set_option maxHeartbeats 4000000 in
set_option maxRecDepth 100000 in
theorem cm_empty (l : Launch) {u : ts_S} {x1 : Int32} {r0 : Int32} {u0 : ts_S} (hd : dm_empty u x1 = some (r0, u0)) : ts_Ci mF l yM_empty (.code yM_empty bM_empty 5 (some .int) :: uW) rM_empty (fun ad => [.ref (ad 0), .int x1]) u r0 u0 := by
  refine ts_in_i mF l (by decide) (fun p e s m args below meth c D ca ad A hc hn hr hlk hw => ?_)
  have hx := hc.1
  have hb := hc.2.1
  have hl := lv_entry ([.ref (ad 0), .int x1]) (n := 5) (Nat.le_of_ble_eq_true rfl)
  rw [lg_entry_eq]
  generalize (lg_sl ([.ref (ad 0), .int x1]) ++ List.replicate (5 - (lg_sl ([.ref (ad 0), .int x1])).length) Slot.unset).toArray = ls at hl ⊢
  replace hl : lv_has ls 5 [(0, .ref (ad 0)), (1, .int x1)] := hl
  have L30 : ∀ (n : Nat) (u : ts_S) (x1 x2 x3 : Int32) (H : Heap) (locs : List Loc) (ls : Array Slot), dm_empty_30 n u x1 x2 x3 = some (r0, u0) → ts_W mF D ca ad A s H locs u → lv_has ls 5 [(0, .ref (ad 0)), (1, .int x1), (2, .int x2), (3, .int x3)] → W p l e rM_empty s m args below meth c H locs 0 0 (MQ below (va_Qi (fun r v => r = r0 ∧ v = u0) (ts_post mF D ca ad A) A) args s 0 0 A) (F0 m 30 ls []) := by
    intro n
    induction n with
    | zero => intro u x1 x2 x3 H locs ls hd; cases (show (none : Option (Int32 × ts_S)) = some (r0, u0) from hd)
    | succ n30 ih30 =>
      intro u x1 x2 x3 H locs ls hd hw hl
      replace hd : dm_empty_30_b (dm_empty_30 n30) u x1 x2 x3 = some (r0, u0) := hd
      unfold dm_empty_30_b at hd
      refine lv_iload_n hx hb dM_empty_30 rfl (lv_at hl 2 rfl) ?_
      refine lv_bipush (v := 16) hx hb dM_empty_31 (by decide) ?_
      refine lv_icmp_ge (tgt := 86) hx hb dM_empty_33 (by decide) (fun cq => ?_) (fun cq => ?_)
      · replace hd := ts_if_p cq hd
        refine lv_aload_n hx hb dM_empty_86 rfl (lv_at hl 0 rfl) ?_
        refine gM_32 hc hn hw dM_empty_87 ?_
        refine lv_iload_n hx hb dM_empty_90 rfl (lv_at hl 1 rfl) ?_
        refine lv_iconst (v := 0) hx hb dM_empty_91 (by decide) ?_
        obtain ⟨h, hd⟩ := ts_ix_s hd
        refine mm_s10 hc hw h dM_empty_92 (fun H locs hw => ?_)
        refine lv_iload_n hx hb dM_empty_93 rfl (lv_at hl 2 rfl) ?_
        exact ts_iret hx hb hr hlk (vp_nar_int _) hw hd dM_empty_94
      · replace hd := ts_if_n cq hd
        refine lv_iload_n hx hb dM_empty_36 rfl (lv_at hl 3 rfl) ?_
        refine lv_if_lt (tgt := 86) hx hb dM_empty_37 (by decide) (fun cq => ?_) (fun cq => ?_)
        · replace hd := ts_if_p cq hd
          refine lv_aload_n hx hb dM_empty_86 rfl (lv_at hl 0 rfl) ?_
          refine gM_32 hc hn hw dM_empty_87 ?_
          refine lv_iload_n hx hb dM_empty_90 rfl (lv_at hl 1 rfl) ?_
          refine lv_iconst (v := 0) hx hb dM_empty_91 (by decide) ?_
          obtain ⟨h, hd⟩ := ts_ix_s hd
          refine mm_s10 hc hw h dM_empty_92 (fun H locs hw => ?_)
          refine lv_iload_n hx hb dM_empty_93 rfl (lv_at hl 2 rfl) ?_
          exact ts_iret hx hb hr hlk (vp_nar_int _) hw hd dM_empty_94
        · replace hd := ts_if_n cq hd
          refine lv_aload_n hx hb dM_empty_40 rfl (lv_at hl 0 rfl) ?_
          refine gM_25 hc hn hw dM_empty_41 ?_
          refine lv_iload_n hx hb dM_empty_44 rfl (lv_at hl 3 rfl) ?_
          obtain ⟨h, hd⟩ := ts_ix_s hd
          refine mm_l6 hc hw h dM_empty_45 ?_
          refine lv_istore (lv' := [(4, .int (u.2 6 x3.toNatClampNeg)), (0, .ref (ad 0)), (1, .int x1), (2, .int x2), (3, .int x3)]) hx hb dM_empty_46 hl (by decide) rfl (fun ls hl => ?_)
          refine lv_aload_n hx hb dM_empty_48 rfl (lv_at hl 1 rfl) ?_
          refine lv_iload_n hx hb dM_empty_49 rfl (lv_at hl 2 rfl) ?_
          refine lv_iload hx hb dM_empty_50 (lv_at hl 0 rfl) ?_
          refine lv_aload_n hx hb dM_empty_52 rfl (lv_at hl 1 rfl) ?_
          refine gM_13 hc hn hw dM_empty_53 ?_
          refine lv_iload_n hx hb dM_empty_56 rfl (lv_at hl 4 rfl) ?_
          obtain ⟨h, hd⟩ := ts_ix_s hd
          refine mm_l3 hc hw h dM_empty_57 ?_
          obtain ⟨r58, u58, hq, hd⟩ := ts_b_s hd
          refine cM_76 hc hn hw hq hl.1 ⟨Nat.le_of_ble_eq_true rfl, Nat.le_of_ble_eq_true rfl⟩ (Nat.le_of_ble_eq_true rfl) dM_empty_58 (fun H locs hw => ?_)
          refine lv_aload_n hx hb dM_empty_61 rfl (lv_at hl 1 rfl) ?_
          refine lv_iload_n hx hb dM_empty_62 rfl (lv_at hl 4 rfl) ?_
          refine lv_iload_n hx hb dM_empty_63 rfl (lv_at hl 2 rfl) ?_
          obtain ⟨r64, u64, hq, hd⟩ := ts_b_s hd
          refine cM_96 hc hn hw hq hl.1 ⟨Nat.le_of_ble_eq_true rfl, Nat.le_of_ble_eq_true rfl⟩ (Nat.le_of_ble_eq_true rfl) dM_empty_64 (fun H locs hw => ?_)
          refine lv_if_eq (tgt := 73) hx hb dM_empty_67 (by decide) (fun cq => ?_) (fun cq => ?_)
          · replace hd := ts_if_p cq hd
            refine lv_aload_n hx hb dM_empty_73 rfl (lv_at hl 1 rfl) ?_
            refine lv_iload_n hx hb dM_empty_74 rfl (lv_at hl 2 rfl) ?_
            refine lv_iload hx hb dM_empty_75 (lv_at hl 0 rfl) ?_
            refine lv_iconst (v := 1) hx hb dM_empty_77 (by decide) ?_
            refine lv_iadd hx hb dM_empty_78 ?_
            obtain ⟨r79, u79, hq, hd⟩ := ts_b_s hd
            refine cM_108 hc hn hw hq hl.1 ⟨Nat.le_of_ble_eq_true rfl, Nat.le_of_ble_eq_true rfl⟩ (Nat.le_of_ble_eq_true rfl) dM_empty_79 (fun H locs hw => ?_)
            refine lv_istore_n (lv' := [(3, .int r79), (4, .int (u.2 6 x3.toNatClampNeg)), (0, .ref (ad 0)), (1, .int x1), (2, .int x2)]) hx hb dM_empty_82 rfl hl (by decide) rfl (fun ls hl => ?_)
            refine lv_goto (tgt := 30) hx hb dM_empty_83 (by decide) ?_
            exact ih30 u79 x1 x2 r79 _ _ _ hd hw (lv_sub hl [2, 3, 4, 0] rfl)
          · replace hd := ts_if_n cq hd
            refine lv_iinc (v := (x2 + 1)) (lv' := [(2, .int (x2 + 1)), (4, .int (u.2 6 x3.toNatClampNeg)), (0, .ref (ad 0)), (1, .int x1), (3, .int x3)]) hx hb dM_empty_70 hl (k := 3) rfl rfl (by decide) rfl (fun ls hl => ?_)
            refine lv_aload_n hx hb dM_empty_73 rfl (lv_at hl 2 rfl) ?_
            refine lv_iload_n hx hb dM_empty_74 rfl (lv_at hl 3 rfl) ?_
            refine lv_iload hx hb dM_empty_75 (lv_at hl 1 rfl) ?_
            refine lv_iconst (v := 1) hx hb dM_empty_77 (by decide) ?_
            refine lv_iadd hx hb dM_empty_78 ?_
            obtain ⟨r79, u79, hq, hd⟩ := ts_b_s hd
            refine cM_108 hc hn hw hq hl.1 ⟨Nat.le_of_ble_eq_true rfl, Nat.le_of_ble_eq_true rfl⟩ (Nat.le_of_ble_eq_true rfl) dM_empty_79 (fun H locs hw => ?_)
            refine lv_istore_n (lv' := [(3, .int r79), (2, .int (x2 + 1)), (4, .int (u.2 6 x3.toNatClampNeg)), (0, .ref (ad 0)), (1, .int x1)]) hx hb dM_empty_82 rfl hl (by decide) rfl (fun ls hl => ?_)
            refine lv_goto (tgt := 30) hx hb dM_empty_83 (by decide) ?_
            exact ih30 u79 x1 (x2 + 1) r79 _ _ _ hd hw (lv_sub hl [3, 4, 1, 0] rfl)
  unfold dm_empty at hd
  refine lv_iload_n hx hb dM_empty_0 rfl (lv_at hl 1 rfl) ?_
  refine lv_iconst (v := 4) hx hb dM_empty_1 (by decide) ?_
  obtain ⟨r2, u2, hq, hd⟩ := ts_b_s hd
  refine cM_51 hc hn hw hq hl.1 ⟨Nat.le_of_ble_eq_true rfl, Nat.le_of_ble_eq_true rfl⟩ (Nat.le_of_ble_eq_true rfl) dM_empty_2 (fun H locs hw => ?_)
  refine lv_if_ne (tgt := 10) hx hb dM_empty_5 (by decide) (fun cq => ?_) (fun cq => ?_)
  · replace hd := ts_if_n cq hd
    refine lv_aload_n hx hb dM_empty_10 rfl (lv_at hl 0 rfl) ?_
    refine lv_iload_n hx hb dM_empty_11 rfl (lv_at hl 1 rfl) ?_
    obtain ⟨r12, u12, hq, hd⟩ := ts_b_s hd
    refine cM_112 hc hn hw hq hl.1 ⟨Nat.le_of_ble_eq_true rfl, Nat.le_of_ble_eq_true rfl⟩ (Nat.le_of_ble_eq_true rfl) dM_empty_12 (fun H locs hw => ?_)
    refine lv_if_ne (tgt := 21) hx hb dM_empty_15 (by decide) (fun cq => ?_) (fun cq => ?_)
    · replace hd := ts_if_n cq hd
      refine lv_iconst (v := 0) hx hb dM_empty_21 (by decide) ?_
      refine lv_istore_n (lv' := [(2, .int 0), (0, .ref (ad 0)), (1, .int x1)]) hx hb dM_empty_22 rfl hl (by decide) rfl (fun ls hl => ?_)
      refine lv_aload_n hx hb dM_empty_23 rfl (lv_at hl 1 rfl) ?_
      refine lv_iload_n hx hb dM_empty_24 rfl (lv_at hl 2 rfl) ?_
      refine lv_iconst (v := 0) hx hb dM_empty_25 (by decide) ?_
      obtain ⟨r26, u26, hq, hd⟩ := ts_b_s hd
      refine cM_108 hc hn hw hq hl.1 ⟨Nat.le_of_ble_eq_true rfl, Nat.le_of_ble_eq_true rfl⟩ (Nat.le_of_ble_eq_true rfl) dM_empty_26 (fun H locs hw => ?_)
      refine lv_istore_n (lv' := [(3, .int r26), (2, .int 0), (0, .ref (ad 0)), (1, .int x1)]) hx hb dM_empty_29 rfl hl (by decide) rfl (fun ls hl => ?_)
      exact L30 40 u26 x1 0 r26 _ _ _ hd hw (lv_sub hl [2, 3, 1, 0] rfl)
    · replace hd := ts_if_p cq hd
      refine lv_bipush (v := (-2)) hx hb dM_empty_18 (by decide) ?_
      exact ts_iret hx hb hr hlk (vp_nar_int _) hw hd dM_empty_20
  · replace hd := ts_if_p cq hd
    refine lv_iconst (v := (-1)) hx hb dM_empty_8 (by decide) ?_
    exact ts_iret hx hb hr hlk (vp_nar_int _) hw hd dM_empty_9
def rM_lose : Room := { frames := 1, cells := 0, slots := 0, locals := 21 }
set_option maxHeartbeats 4000000 in
set_option maxRecDepth 100000 in
theorem cm_lose (l : Launch) {u : ts_S} {x1 : Int32} {r0 : Int32} {u0 : ts_S} (hd : dm_lose u x1 = some (r0, u0)) : ts_Ci mF l yM_lose (.code yM_lose bM_lose 4 (some .int) :: uW) rM_lose (fun ad => [.ref (ad 0), .int x1]) u r0 u0 := by
  refine ts_in_i mF l (by decide) (fun p e s m args below meth c D ca ad A hc hn hr hlk hw => ?_)
  have hx := hc.1
  have hb := hc.2.1
  have hl := lv_entry ([.ref (ad 0), .int x1]) (n := 4) (Nat.le_of_ble_eq_true rfl)
  rw [lg_entry_eq]
  generalize (lg_sl ([.ref (ad 0), .int x1]) ++ List.replicate (4 - (lg_sl ([.ref (ad 0), .int x1])).length) Slot.unset).toArray = ls at hl ⊢
  replace hl : lv_has ls 4 [(0, .ref (ad 0)), (1, .int x1)] := hl
  have L14 : ∀ (n : Nat) (u : ts_S) (x1 x2 x3 : Int32) (H : Heap) (locs : List Loc) (ls : Array Slot), dm_lose_14 n u x1 x2 x3 = some (r0, u0) → ts_W mF D ca ad A s H locs u → lv_has ls 4 [(0, .ref (ad 0)), (1, .int x1), (2, .int x2), (3, .int x3)] → W p l e rM_lose s m args below meth c H locs 0 0 (MQ below (va_Qi (fun r v => r = r0 ∧ v = u0) (ts_post mF D ca ad A) A) args s 0 0 A) (F0 m 14 ls []) := by
    intro n
    induction n with
    | zero => intro u x1 x2 x3 H locs ls hd; cases (show (none : Option (Int32 × ts_S)) = some (r0, u0) from hd)
    | succ n14 ih14 =>
      intro u x1 x2 x3 H locs ls hd hw hl
      replace hd : dm_lose_14_b (dm_lose_14 n14) u x1 x2 x3 = some (r0, u0) := hd
      unfold dm_lose_14_b at hd
      refine lv_iload_n hx hb dM_lose_14 rfl (lv_at hl 3 rfl) ?_
      refine lv_bipush (v := 16) hx hb dM_lose_15 (by decide) ?_
      refine lv_icmp_ge (tgt := 78) hx hb dM_lose_17 (by decide) (fun cq => ?_) (fun cq => ?_)
      · replace hd := ts_if_p cq hd
        refine lv_aload_n hx hb dM_lose_78 rfl (lv_at hl 0 rfl) ?_
        refine gM_32 hc hn hw dM_lose_79 ?_
        refine lv_iload_n hx hb dM_lose_82 rfl (lv_at hl 1 rfl) ?_
        refine lv_iconst (v := 0) hx hb dM_lose_83 (by decide) ?_
        obtain ⟨h, hd⟩ := ts_ix_s hd
        refine mm_s10 hc hw h dM_lose_84 (fun H locs hw => ?_)
        refine lv_aload_n hx hb dM_lose_85 rfl (lv_at hl 0 rfl) ?_
        refine gM_41 hc hn hw dM_lose_86 ?_
        refine lv_iload_n hx hb dM_lose_89 rfl (lv_at hl 1 rfl) ?_
        refine lv_icmp_ne (tgt := 98) hx hb dM_lose_90 (by decide) (fun cq => ?_) (fun cq => ?_)
        · replace hd := ts_if_n cq hd
          refine lv_iload_n hx hb dM_lose_98 rfl (lv_at hl 2 rfl) ?_
          exact ts_iret hx hb hr hlk (vp_nar_int _) hw hd dM_lose_99
        · replace hd := ts_if_p cq hd
          refine lv_aload_n hx hb dM_lose_93 rfl (lv_at hl 0 rfl) ?_
          refine lv_iconst (v := (-1)) hx hb dM_lose_94 (by decide) ?_
          refine pM_41 hc hn hw dM_lose_95 (fun H locs hw => ?_)
          refine lv_iload_n hx hb dM_lose_98 rfl (lv_at hl 2 rfl) ?_
          exact ts_iret hx hb hr hlk (vp_nar_int _) hw hd dM_lose_99
      · replace hd := ts_if_n cq hd
        refine lv_aload_n hx hb dM_lose_20 rfl (lv_at hl 0 rfl) ?_
        refine lv_iload_n hx hb dM_lose_21 rfl (lv_at hl 3 rfl) ?_
        obtain ⟨r22, u22, hq, hd⟩ := ts_b_s hd
        refine cM_105 hc hn hw hq hl.1 ⟨Nat.le_of_ble_eq_true rfl, Nat.le_of_ble_eq_true rfl⟩ (Nat.le_of_ble_eq_true rfl) dM_lose_22 (fun H locs hw => ?_)
        refine lv_if_eq (tgt := 72) hx hb dM_lose_25 (by decide) (fun cq => ?_) (fun cq => ?_)
        · replace hd := ts_if_p cq hd
          refine lv_iinc (v := (x3 + 1)) (lv' := [(3, .int (x3 + 1)), (0, .ref (ad 0)), (1, .int x1), (2, .int x2)]) hx hb dM_lose_72 hl (k := 3) rfl rfl (by decide) rfl (fun ls hl => ?_)
          refine lv_goto (tgt := 14) hx hb dM_lose_75 (by decide) ?_
          exact ih14 u22 x1 x2 (x3 + 1) _ _ _ hd hw (lv_sub hl [1, 2, 3, 0] rfl)
        · replace hd := ts_if_n cq hd
          refine lv_aload_n hx hb dM_lose_28 rfl (lv_at hl 0 rfl) ?_
          refine gM_22 hc hn hw dM_lose_29 ?_
          refine lv_iload_n hx hb dM_lose_32 rfl (lv_at hl 3 rfl) ?_
          obtain ⟨h, hd⟩ := ts_ix_s hd
          refine mm_l5 hc hw h dM_lose_33 ?_
          refine lv_iload_n hx hb dM_lose_34 rfl (lv_at hl 1 rfl) ?_
          refine lv_icmp_ne (tgt := 72) hx hb dM_lose_35 (by decide) (fun cq => ?_) (fun cq => ?_)
          · replace hd := ts_if_n cq hd
            refine lv_iinc (v := (x3 + 1)) (lv' := [(3, .int (x3 + 1)), (0, .ref (ad 0)), (1, .int x1), (2, .int x2)]) hx hb dM_lose_72 hl (k := 3) rfl rfl (by decide) rfl (fun ls hl => ?_)
            refine lv_goto (tgt := 14) hx hb dM_lose_75 (by decide) ?_
            exact ih14 u22 x1 x2 (x3 + 1) _ _ _ hd hw (lv_sub hl [1, 2, 3, 0] rfl)
          · replace hd := ts_if_p cq hd
            refine lv_aload_n hx hb dM_lose_38 rfl (lv_at hl 0 rfl) ?_
            refine gM_7 hc hn hw dM_lose_39 ?_
            refine lv_iload_n hx hb dM_lose_42 rfl (lv_at hl 3 rfl) ?_
            obtain ⟨h, hd⟩ := ts_ix_s hd
            refine mm_l2 hc hw h dM_lose_43 ?_
            refine lv_iconst (v := 3) hx hb dM_lose_44 (by decide) ?_
            refine lv_icmp_ne (tgt := 51) hx hb dM_lose_45 (by decide) (fun cq => ?_) (fun cq => ?_)
            · replace hd := ts_if_n cq hd
              refine lv_aload_n hx hb dM_lose_51 rfl (lv_at hl 0 rfl) ?_
              refine gM_7 hc hn hw dM_lose_52 ?_
              refine lv_iload_n hx hb dM_lose_55 rfl (lv_at hl 3 rfl) ?_
              refine lv_aload_n hx hb dM_lose_56 rfl (lv_at hl 0 rfl) ?_
              refine gM_7 hc hn hw dM_lose_57 ?_
              refine lv_iload_n hx hb dM_lose_60 rfl (lv_at hl 3 rfl) ?_
              obtain ⟨h, hd⟩ := ts_ix_s hd
              refine mm_l2 hc hw h dM_lose_61 ?_
              refine lv_iconst (v := 3) hx hb dM_lose_62 (by decide) ?_
              refine lv_icmp_ne (tgt := 70) hx hb dM_lose_63 (by decide) (fun cq => ?_) (fun cq => ?_)
              · replace hd := ts_if_n cq hd
                refine lv_iconst (v := 1) hx hb dM_lose_70 (by decide) ?_
                obtain ⟨h, hd⟩ := ts_ix_s hd
                refine mm_s2 hc hw h dM_lose_71 (fun H locs hw => ?_)
                refine lv_iinc (v := (x3 + 1)) (lv' := [(3, .int (x3 + 1)), (0, .ref (ad 0)), (1, .int x1), (2, .int x2)]) hx hb dM_lose_72 hl (k := 3) rfl rfl (by decide) rfl (fun ls hl => ?_)
                refine lv_goto (tgt := 14) hx hb dM_lose_75 (by decide) ?_
                exact ih14 (ts_a 2 x3.toNatClampNeg 1 u22) x1 x2 (x3 + 1) _ _ _ hd hw (lv_sub hl [1, 2, 3, 0] rfl)
              · replace hd := ts_if_p cq hd
                refine lv_iconst (v := 4) hx hb dM_lose_66 (by decide) ?_
                refine lv_goto (tgt := 71) hx hb dM_lose_67 (by decide) ?_
                obtain ⟨h, hd⟩ := ts_ix_s hd
                refine mm_s2 hc hw h dM_lose_71 (fun H locs hw => ?_)
                refine lv_iinc (v := (x3 + 1)) (lv' := [(3, .int (x3 + 1)), (0, .ref (ad 0)), (1, .int x1), (2, .int x2)]) hx hb dM_lose_72 hl (k := 3) rfl rfl (by decide) rfl (fun ls hl => ?_)
                refine lv_goto (tgt := 14) hx hb dM_lose_75 (by decide) ?_
                exact ih14 (ts_a 2 x3.toNatClampNeg 4 u22) x1 x2 (x3 + 1) _ _ _ hd hw (lv_sub hl [1, 2, 3, 0] rfl)
            · replace hd := ts_if_p cq hd
              refine lv_iinc (v := (x2 + 1)) (lv' := [(2, .int (x2 + 1)), (0, .ref (ad 0)), (1, .int x1), (3, .int x3)]) hx hb dM_lose_48 hl (k := 2) rfl rfl (by decide) rfl (fun ls hl => ?_)
              refine lv_aload_n hx hb dM_lose_51 rfl (lv_at hl 1 rfl) ?_
              refine gM_7 hc hn hw dM_lose_52 ?_
              refine lv_iload_n hx hb dM_lose_55 rfl (lv_at hl 3 rfl) ?_
              refine lv_aload_n hx hb dM_lose_56 rfl (lv_at hl 1 rfl) ?_
              refine gM_7 hc hn hw dM_lose_57 ?_
              refine lv_iload_n hx hb dM_lose_60 rfl (lv_at hl 3 rfl) ?_
              obtain ⟨h, hd⟩ := ts_ix_s hd
              refine mm_l2 hc hw h dM_lose_61 ?_
              refine lv_iconst (v := 3) hx hb dM_lose_62 (by decide) ?_
              refine lv_icmp_ne (tgt := 70) hx hb dM_lose_63 (by decide) (fun cq => ?_) (fun cq => ?_)
              · replace hd := ts_if_n cq hd
                refine lv_iconst (v := 1) hx hb dM_lose_70 (by decide) ?_
                obtain ⟨h, hd⟩ := ts_ix_s hd
                refine mm_s2 hc hw h dM_lose_71 (fun H locs hw => ?_)
                refine lv_iinc (v := (x3 + 1)) (lv' := [(3, .int (x3 + 1)), (2, .int (x2 + 1)), (0, .ref (ad 0)), (1, .int x1)]) hx hb dM_lose_72 hl (k := 3) rfl rfl (by decide) rfl (fun ls hl => ?_)
                refine lv_goto (tgt := 14) hx hb dM_lose_75 (by decide) ?_
                exact ih14 (ts_a 2 x3.toNatClampNeg 1 u22) x1 (x2 + 1) (x3 + 1) _ _ _ hd hw (lv_sub hl [2, 3, 1, 0] rfl)
              · replace hd := ts_if_p cq hd
                refine lv_iconst (v := 4) hx hb dM_lose_66 (by decide) ?_
                refine lv_goto (tgt := 71) hx hb dM_lose_67 (by decide) ?_
                obtain ⟨h, hd⟩ := ts_ix_s hd
                refine mm_s2 hc hw h dM_lose_71 (fun H locs hw => ?_)
                refine lv_iinc (v := (x3 + 1)) (lv' := [(3, .int (x3 + 1)), (2, .int (x2 + 1)), (0, .ref (ad 0)), (1, .int x1)]) hx hb dM_lose_72 hl (k := 3) rfl rfl (by decide) rfl (fun ls hl => ?_)
                refine lv_goto (tgt := 14) hx hb dM_lose_75 (by decide) ?_
                exact ih14 (ts_a 2 x3.toNatClampNeg 4 u22) x1 (x2 + 1) (x3 + 1) _ _ _ hd hw (lv_sub hl [2, 3, 1, 0] rfl)
  unfold dm_lose at hd
  refine lv_iload_n hx hb dM_lose_0 rfl (lv_at hl 1 rfl) ?_
  refine lv_iconst (v := 4) hx hb dM_lose_1 (by decide) ?_
  obtain ⟨r2, u2, hq, hd⟩ := ts_b_s hd
  refine cM_51 hc hn hw hq hl.1 ⟨Nat.le_of_ble_eq_true rfl, Nat.le_of_ble_eq_true rfl⟩ (Nat.le_of_ble_eq_true rfl) dM_lose_2 (fun H locs hw => ?_)
  refine lv_if_ne (tgt := 10) hx hb dM_lose_5 (by decide) (fun cq => ?_) (fun cq => ?_)
  · replace hd := ts_if_n cq hd
    refine lv_iconst (v := 0) hx hb dM_lose_10 (by decide) ?_
    refine lv_istore_n (lv' := [(2, .int 0), (0, .ref (ad 0)), (1, .int x1)]) hx hb dM_lose_11 rfl hl (by decide) rfl (fun ls hl => ?_)
    refine lv_iconst (v := 0) hx hb dM_lose_12 (by decide) ?_
    refine lv_istore_n (lv' := [(3, .int 0), (2, .int 0), (0, .ref (ad 0)), (1, .int x1)]) hx hb dM_lose_13 rfl hl (by decide) rfl (fun ls hl => ?_)
    exact L14 40 u2 x1 0 0 _ _ _ hd hw (lv_sub hl [2, 3, 1, 0] rfl)
  · replace hd := ts_if_p cq hd
    refine lv_iconst (v := (-1)) hx hb dM_lose_8 (by decide) ?_
    exact ts_iret hx hb hr hlk (vp_nar_int _) hw hd dM_lose_9
def rM_file : Room := { frames := 1, cells := 0, slots := 0, locals := 21 }
set_option maxHeartbeats 4000000 in
set_option maxRecDepth 100000 in
theorem cm_file (l : Launch) {u : ts_S} {x1 x2 : Int32} {r0 : Int32} {u0 : ts_S} (hd : dm_file u x1 x2 = some (r0, u0)) : ts_Ci mF l yM_file (.code yM_file bM_file 5 (some .int) :: uW) rM_file (fun ad => [.ref (ad 0), .int x1, .int x2]) u r0 u0 := by
  refine ts_in_i mF l (by decide) (fun p e s m args below meth c D ca ad A hc hn hr hlk hw => ?_)
  have hx := hc.1
  have hb := hc.2.1
  have hl := lv_entry ([.ref (ad 0), .int x1, .int x2]) (n := 5) (Nat.le_of_ble_eq_true rfl)
  rw [lg_entry_eq]
  generalize (lg_sl ([.ref (ad 0), .int x1, .int x2]) ++ List.replicate (5 - (lg_sl ([.ref (ad 0), .int x1, .int x2])).length) Slot.unset).toArray = ls at hl ⊢
  replace hl : lv_has ls 5 [(0, .ref (ad 0)), (1, .int x1), (2, .int x2)] := hl
  have L135 : ∀ (n : Nat) (u : ts_S) (x1 x2 x3 x4 : Int32) (H : Heap) (locs : List Loc) (ls : Array Slot), dm_file_135 n u x1 x2 x3 x4 = some (r0, u0) → ts_W mF D ca ad A s H locs u → lv_has ls 5 [(0, .ref (ad 0)), (1, .int x1), (2, .int x2), (3, .int x3), (4, .int x4)] → W p l e rM_file s m args below meth c H locs 0 0 (MQ below (va_Qi (fun r v => r = r0 ∧ v = u0) (ts_post mF D ca ad A) A) args s 0 0 A) (F0 m 135 ls []) := by
    intro n
    induction n with
    | zero => intro u x1 x2 x3 x4 H locs ls hd; cases (show (none : Option (Int32 × ts_S)) = some (r0, u0) from hd)
    | succ n135 ih135 =>
      intro u x1 x2 x3 x4 H locs ls hd hw hl
      replace hd : dm_file_135_b (dm_file_135 n135) u x1 x2 x3 x4 = some (r0, u0) := hd
      unfold dm_file_135_b at hd
      refine lv_iload hx hb dM_file_135 (lv_at hl 4 rfl) ?_
      refine lv_bipush (v := 16) hx hb dM_file_137 (by decide) ?_
      refine lv_icmp_ge (tgt := 177) hx hb dM_file_139 (by decide) (fun cq => ?_) (fun cq => ?_)
      · replace hd := ts_if_p cq hd
        refine lv_iload_n hx hb dM_file_177 rfl (lv_at hl 3 rfl) ?_
        exact ts_iret hx hb hr hlk (vp_nar_int _) hw hd dM_file_178
      · replace hd := ts_if_n cq hd
        refine lv_aload_n hx hb dM_file_142 rfl (lv_at hl 0 rfl) ?_
        refine gM_7 hc hn hw dM_file_143 ?_
        refine lv_iload hx hb dM_file_146 (lv_at hl 4 rfl) ?_
        obtain ⟨h, hd⟩ := ts_ix_s hd
        refine mm_l2 hc hw h dM_file_148 ?_
        refine lv_if_eq (tgt := 171) hx hb dM_file_149 (by decide) (fun cq => ?_) (fun cq => ?_)
        · replace hd := ts_if_p cq hd
          refine lv_iinc (v := (x4 + 1)) (lv' := [(4, .int (x4 + 1)), (0, .ref (ad 0)), (1, .int x1), (2, .int x2), (3, .int x3)]) hx hb dM_file_171 hl (k := 4) rfl rfl (by decide) rfl (fun ls hl => ?_)
          refine lv_goto (tgt := 135) hx hb dM_file_174 (by decide) ?_
          exact ih135 u x1 x2 x3 (x4 + 1) _ _ _ hd hw (lv_sub hl [1, 2, 3, 4, 0] rfl)
        · replace hd := ts_if_n cq hd
          refine lv_aload_n hx hb dM_file_152 rfl (lv_at hl 0 rfl) ?_
          refine gM_19 hc hn hw dM_file_153 ?_
          refine lv_iload hx hb dM_file_156 (lv_at hl 4 rfl) ?_
          obtain ⟨h, hd⟩ := ts_ix_s hd
          refine mm_l8 hc hw h dM_file_158 ?_
          refine lv_aload_n hx hb dM_file_159 rfl (lv_at hl 0 rfl) ?_
          refine gM_19 hc hn hw dM_file_160 ?_
          refine lv_iload_n hx hb dM_file_163 rfl (lv_at hl 1 rfl) ?_
          obtain ⟨h, hd⟩ := ts_ix_s hd
          refine mm_l8 hc hw h dM_file_164 ?_
          refine lv_icmp_le (tgt := 171) hx hb dM_file_165 (by decide) (fun cq => ?_) (fun cq => ?_)
          · replace hd := ts_if_p cq hd
            refine lv_iinc (v := (x4 + 1)) (lv' := [(4, .int (x4 + 1)), (0, .ref (ad 0)), (1, .int x1), (2, .int x2), (3, .int x3)]) hx hb dM_file_171 hl (k := 4) rfl rfl (by decide) rfl (fun ls hl => ?_)
            refine lv_goto (tgt := 135) hx hb dM_file_174 (by decide) ?_
            exact ih135 u x1 x2 x3 (x4 + 1) _ _ _ hd hw (lv_sub hl [1, 2, 3, 4, 0] rfl)
          · replace hd := ts_if_n cq hd
            refine lv_iinc (v := (x3 + 1)) (lv' := [(3, .int (x3 + 1)), (0, .ref (ad 0)), (1, .int x1), (2, .int x2), (4, .int x4)]) hx hb dM_file_168 hl (k := 3) rfl rfl (by decide) rfl (fun ls hl => ?_)
            refine lv_iinc (v := (x4 + 1)) (lv' := [(4, .int (x4 + 1)), (3, .int (x3 + 1)), (0, .ref (ad 0)), (1, .int x1), (2, .int x2)]) hx hb dM_file_171 hl (k := 4) rfl rfl (by decide) rfl (fun ls hl => ?_)
            refine lv_goto (tgt := 135) hx hb dM_file_174 (by decide) ?_
            exact ih135 u x1 x2 (x3 + 1) (x4 + 1) _ _ _ hd hw (lv_sub hl [2, 3, 4, 1, 0] rfl)
  unfold dm_file at hd
  refine lv_iload_n hx hb dM_file_0 rfl (lv_at hl 1 rfl) ?_
  refine lv_bipush (v := 16) hx hb dM_file_1 (by decide) ?_
  obtain ⟨r3, u3, hq, hd⟩ := ts_b_s hd
  refine cM_51 hc hn hw hq hl.1 ⟨Nat.le_of_ble_eq_true rfl, Nat.le_of_ble_eq_true rfl⟩ (Nat.le_of_ble_eq_true rfl) dM_file_3 (fun H locs hw => ?_)
  refine lv_if_eq (tgt := 18) hx hb dM_file_6 (by decide) (fun cq => ?_) (fun cq => ?_)
  · replace hd := ts_if_p cq hd
    refine lv_iconst (v := (-1)) hx hb dM_file_18 (by decide) ?_
    exact ts_iret hx hb hr hlk (vp_nar_int _) hw hd dM_file_19
  · replace hd := ts_if_n cq hd
    refine lv_iload_n hx hb dM_file_9 rfl (lv_at hl 2 rfl) ?_
    refine lv_bipush (v := 6) hx hb dM_file_10 (by decide) ?_
    obtain ⟨r12, u12, hq, hd⟩ := ts_b_s hd
    refine cM_51 hc hn hw hq hl.1 ⟨Nat.le_of_ble_eq_true rfl, Nat.le_of_ble_eq_true rfl⟩ (Nat.le_of_ble_eq_true rfl) dM_file_12 (fun H locs hw => ?_)
    refine lv_if_ne (tgt := 20) hx hb dM_file_15 (by decide) (fun cq => ?_) (fun cq => ?_)
    · replace hd := ts_if_n cq hd
      refine lv_iload_n hx hb dM_file_20 rfl (lv_at hl 2 rfl) ?_
      refine lv_if_ne (tgt := 31) hx hb dM_file_21 (by decide) (fun cq => ?_) (fun cq => ?_)
      · replace hd := ts_if_n cq hd
        refine lv_iload_n hx hb dM_file_31 rfl (lv_at hl 2 rfl) ?_
        refine lv_iconst (v := 1) hx hb dM_file_32 (by decide) ?_
        refine lv_icmp_ne (tgt := 56) hx hb dM_file_33 (by decide) (fun cq => ?_) (fun cq => ?_)
        · replace hd := ts_if_n cq hd
          refine lv_iload_n hx hb dM_file_56 rfl (lv_at hl 2 rfl) ?_
          refine lv_iconst (v := 2) hx hb dM_file_57 (by decide) ?_
          refine lv_icmp_eq (tgt := 66) hx hb dM_file_58 (by decide) (fun cq => ?_) (fun cq => ?_)
          · replace hd := ts_if_p cq hd
            refine lv_aload_n hx hb dM_file_66 rfl (lv_at hl 0 rfl) ?_
            refine lv_iload_n hx hb dM_file_67 rfl (lv_at hl 1 rfl) ?_
            obtain ⟨r68, u68, hq, hd⟩ := ts_b_s hd
            refine cM_105 hc hn hw hq hl.1 ⟨Nat.le_of_ble_eq_true rfl, Nat.le_of_ble_eq_true rfl⟩ (Nat.le_of_ble_eq_true rfl) dM_file_68 (fun H locs hw => ?_)
            refine lv_if_ne (tgt := 78) hx hb dM_file_71 (by decide) (fun cq => ?_) (fun cq => ?_)
            · replace hd := ts_if_n cq hd
              refine lv_iload_n hx hb dM_file_78 rfl (lv_at hl 2 rfl) ?_
              refine lv_iconst (v := 2) hx hb dM_file_79 (by decide) ?_
              refine lv_icmp_ne (tgt := 92) hx hb dM_file_80 (by decide) (fun cq => ?_) (fun cq => ?_)
              · replace hd := ts_if_n cq hd
                refine lv_aload_n hx hb dM_file_92 rfl (lv_at hl 0 rfl) ?_
                refine gM_25 hc hn hw dM_file_93 ?_
                refine lv_iload_n hx hb dM_file_96 rfl (lv_at hl 1 rfl) ?_
                obtain ⟨h, hd⟩ := ts_ix_s hd
                refine mm_l6 hc hw h dM_file_97 ?_
                exact ts_iret hx hb hr hlk (vp_nar_int _) hw hd dM_file_98
              · replace hd := ts_if_p cq hd
                refine lv_aload_n hx hb dM_file_83 rfl (lv_at hl 0 rfl) ?_
                refine gM_22 hc hn hw dM_file_84 ?_
                refine lv_iload_n hx hb dM_file_87 rfl (lv_at hl 1 rfl) ?_
                obtain ⟨h, hd⟩ := ts_ix_s hd
                refine mm_l5 hc hw h dM_file_88 ?_
                refine lv_goto (tgt := 98) hx hb dM_file_89 (by decide) ?_
                exact ts_iret hx hb hr hlk (vp_nar_int _) hw hd dM_file_98
            · replace hd := ts_if_p cq hd
              refine lv_iconst (v := (-1)) hx hb dM_file_74 (by decide) ?_
              refine lv_goto (tgt := 98) hx hb dM_file_75 (by decide) ?_
              exact ts_iret hx hb hr hlk (vp_nar_int _) hw hd dM_file_98
          · replace hd := ts_if_n cq hd
            refine lv_iload_n hx hb dM_file_61 rfl (lv_at hl 2 rfl) ?_
            refine lv_iconst (v := 3) hx hb dM_file_62 (by decide) ?_
            refine lv_icmp_ne (tgt := 99) hx hb dM_file_63 (by decide) (fun cq => ?_) (fun cq => ?_)
            · replace hd := ts_if_n cq hd
              refine lv_iload_n hx hb dM_file_99 rfl (lv_at hl 2 rfl) ?_
              refine lv_iconst (v := 4) hx hb dM_file_100 (by decide) ?_
              refine lv_icmp_ne (tgt := 119) hx hb dM_file_101 (by decide) (fun cq => ?_) (fun cq => ?_)
              · replace hd := ts_if_n cq hd
                refine lv_aload_n hx hb dM_file_119 rfl (lv_at hl 0 rfl) ?_
                refine gM_7 hc hn hw dM_file_120 ?_
                refine lv_iload_n hx hb dM_file_123 rfl (lv_at hl 1 rfl) ?_
                obtain ⟨h, hd⟩ := ts_ix_s hd
                refine mm_l2 hc hw h dM_file_124 ?_
                refine lv_if_ne (tgt := 130) hx hb dM_file_125 (by decide) (fun cq => ?_) (fun cq => ?_)
                · replace hd := ts_if_n cq hd
                  refine lv_iconst (v := 0) hx hb dM_file_130 (by decide) ?_
                  refine lv_istore_n (lv' := [(3, .int 0), (0, .ref (ad 0)), (1, .int x1), (2, .int x2)]) hx hb dM_file_131 rfl hl (by decide) rfl (fun ls hl => ?_)
                  refine lv_iconst (v := 0) hx hb dM_file_132 (by decide) ?_
                  refine lv_istore (lv' := [(4, .int 0), (3, .int 0), (0, .ref (ad 0)), (1, .int x1), (2, .int x2)]) hx hb dM_file_133 hl (by decide) rfl (fun ls hl => ?_)
                  exact L135 40 u12 x1 x2 0 0 _ _ _ hd hw (lv_sub hl [2, 3, 4, 1, 0] rfl)
                · replace hd := ts_if_p cq hd
                  refine lv_iconst (v := (-1)) hx hb dM_file_128 (by decide) ?_
                  exact ts_iret hx hb hr hlk (vp_nar_int _) hw hd dM_file_129
              · replace hd := ts_if_p cq hd
                refine lv_aload_n hx hb dM_file_104 rfl (lv_at hl 0 rfl) ?_
                refine gM_28 hc hn hw dM_file_105 ?_
                refine lv_iload_n hx hb dM_file_108 rfl (lv_at hl 1 rfl) ?_
                obtain ⟨h, hd⟩ := ts_ix_s hd
                refine mm_l7 hc hw h dM_file_109 ?_
                refine lv_if_eq (tgt := 117) hx hb dM_file_110 (by decide) (fun cq => ?_) (fun cq => ?_)
                · replace hd := ts_if_p cq hd
                  refine lv_iconst (v := 0) hx hb dM_file_117 (by decide) ?_
                  exact ts_iret hx hb hr hlk (vp_nar_int _) hw hd dM_file_118
                · replace hd := ts_if_n cq hd
                  refine lv_iconst (v := 1) hx hb dM_file_113 (by decide) ?_
                  refine lv_goto (tgt := 118) hx hb dM_file_114 (by decide) ?_
                  exact ts_iret hx hb hr hlk (vp_nar_int _) hw hd dM_file_118
            · replace hd := ts_if_p cq hd
              refine lv_aload_n hx hb dM_file_66 rfl (lv_at hl 0 rfl) ?_
              refine lv_iload_n hx hb dM_file_67 rfl (lv_at hl 1 rfl) ?_
              obtain ⟨r68, u68, hq, hd⟩ := ts_b_s hd
              refine cM_105 hc hn hw hq hl.1 ⟨Nat.le_of_ble_eq_true rfl, Nat.le_of_ble_eq_true rfl⟩ (Nat.le_of_ble_eq_true rfl) dM_file_68 (fun H locs hw => ?_)
              refine lv_if_ne (tgt := 78) hx hb dM_file_71 (by decide) (fun cq => ?_) (fun cq => ?_)
              · replace hd := ts_if_n cq hd
                refine lv_iload_n hx hb dM_file_78 rfl (lv_at hl 2 rfl) ?_
                refine lv_iconst (v := 2) hx hb dM_file_79 (by decide) ?_
                refine lv_icmp_ne (tgt := 92) hx hb dM_file_80 (by decide) (fun cq => ?_) (fun cq => ?_)
                · replace hd := ts_if_n cq hd
                  refine lv_aload_n hx hb dM_file_92 rfl (lv_at hl 0 rfl) ?_
                  refine gM_25 hc hn hw dM_file_93 ?_
                  refine lv_iload_n hx hb dM_file_96 rfl (lv_at hl 1 rfl) ?_
                  obtain ⟨h, hd⟩ := ts_ix_s hd
                  refine mm_l6 hc hw h dM_file_97 ?_
                  exact ts_iret hx hb hr hlk (vp_nar_int _) hw hd dM_file_98
                · replace hd := ts_if_p cq hd
                  refine lv_aload_n hx hb dM_file_83 rfl (lv_at hl 0 rfl) ?_
                  refine gM_22 hc hn hw dM_file_84 ?_
                  refine lv_iload_n hx hb dM_file_87 rfl (lv_at hl 1 rfl) ?_
                  obtain ⟨h, hd⟩ := ts_ix_s hd
                  refine mm_l5 hc hw h dM_file_88 ?_
                  refine lv_goto (tgt := 98) hx hb dM_file_89 (by decide) ?_
                  exact ts_iret hx hb hr hlk (vp_nar_int _) hw hd dM_file_98
              · replace hd := ts_if_p cq hd
                refine lv_iconst (v := (-1)) hx hb dM_file_74 (by decide) ?_
                refine lv_goto (tgt := 98) hx hb dM_file_75 (by decide) ?_
                exact ts_iret hx hb hr hlk (vp_nar_int _) hw hd dM_file_98
        · replace hd := ts_if_p cq hd
          refine lv_aload_n hx hb dM_file_36 rfl (lv_at hl 0 rfl) ?_
          refine gM_7 hc hn hw dM_file_37 ?_
          refine lv_iload_n hx hb dM_file_40 rfl (lv_at hl 1 rfl) ?_
          obtain ⟨h, hd⟩ := ts_ix_s hd
          refine mm_l2 hc hw h dM_file_41 ?_
          refine lv_if_ne (tgt := 49) hx hb dM_file_42 (by decide) (fun cq => ?_) (fun cq => ?_)
          · replace hd := ts_if_n cq hd
            refine lv_aload_n hx hb dM_file_49 rfl (lv_at hl 0 rfl) ?_
            refine gM_13 hc hn hw dM_file_50 ?_
            refine lv_iload_n hx hb dM_file_53 rfl (lv_at hl 1 rfl) ?_
            obtain ⟨h, hd⟩ := ts_ix_s hd
            refine mm_l3 hc hw h dM_file_54 ?_
            exact ts_iret hx hb hr hlk (vp_nar_int _) hw hd dM_file_55
          · replace hd := ts_if_p cq hd
            refine lv_iconst (v := 0) hx hb dM_file_45 (by decide) ?_
            refine lv_goto (tgt := 55) hx hb dM_file_46 (by decide) ?_
            exact ts_iret hx hb hr hlk (vp_nar_int _) hw hd dM_file_55
      · replace hd := ts_if_p cq hd
        refine lv_aload_n hx hb dM_file_24 rfl (lv_at hl 0 rfl) ?_
        refine gM_7 hc hn hw dM_file_25 ?_
        refine lv_iload_n hx hb dM_file_28 rfl (lv_at hl 1 rfl) ?_
        obtain ⟨h, hd⟩ := ts_ix_s hd
        refine mm_l2 hc hw h dM_file_29 ?_
        exact ts_iret hx hb hr hlk (vp_nar_int _) hw hd dM_file_30
    · replace hd := ts_if_p cq hd
      refine lv_iconst (v := (-1)) hx hb dM_file_18 (by decide) ?_
      exact ts_iret hx hb hr hlk (vp_nar_int _) hw hd dM_file_19
def rM_cartridge : Room := { frames := 1, cells := 0, slots := 0, locals := 21 }
set_option maxHeartbeats 4000000 in
set_option maxRecDepth 100000 in
theorem cm_cartridge (l : Launch) {u : ts_S} {x1 x2 : Int32} {r0 : Int32} {u0 : ts_S} (hd : dm_cartridge u x1 x2 = some (r0, u0)) : ts_Ci mF l yM_cartridge (.code yM_cartridge bM_cartridge 5 (some .int) :: uW) rM_cartridge (fun ad => [.ref (ad 0), .int x1, .int x2]) u r0 u0 := by
  refine ts_in_i mF l (by decide) (fun p e s m args below meth c D ca ad A hc hn hr hlk hw => ?_)
  have hx := hc.1
  have hb := hc.2.1
  have hl := lv_entry ([.ref (ad 0), .int x1, .int x2]) (n := 5) (Nat.le_of_ble_eq_true rfl)
  rw [lg_entry_eq]
  generalize (lg_sl ([.ref (ad 0), .int x1, .int x2]) ++ List.replicate (5 - (lg_sl ([.ref (ad 0), .int x1, .int x2])).length) Slot.unset).toArray = ls at hl ⊢
  replace hl : lv_has ls 5 [(0, .ref (ad 0)), (1, .int x1), (2, .int x2)] := hl
  have L53 : ∀ (n : Nat) (u : ts_S) (x1 x2 x3 x4 : Int32) (H : Heap) (locs : List Loc) (ls : Array Slot), dm_cartridge_53 n u x1 x2 x3 x4 = some (r0, u0) → ts_W mF D ca ad A s H locs u → lv_has ls 5 [(0, .ref (ad 0)), (1, .int x1), (2, .int x2), (3, .int x3), (4, .int x4)] → W p l e rM_cartridge s m args below meth c H locs 0 0 (MQ below (va_Qi (fun r v => r = r0 ∧ v = u0) (ts_post mF D ca ad A) A) args s 0 0 A) (F0 m 53 ls []) := by
    intro n
    induction n with
    | zero => intro u x1 x2 x3 x4 H locs ls hd; cases (show (none : Option (Int32 × ts_S)) = some (r0, u0) from hd)
    | succ n53 ih53 =>
      intro u x1 x2 x3 x4 H locs ls hd hw hl
      replace hd : dm_cartridge_53_b (dm_cartridge_53 n53) u x1 x2 x3 x4 = some (r0, u0) := hd
      unfold dm_cartridge_53_b at hd
      refine lv_iload hx hb dM_cartridge_53 (lv_at hl 4 rfl) ?_
      refine lv_bipush (v := 16) hx hb dM_cartridge_55 (by decide) ?_
      refine lv_icmp_ge (tgt := 96) hx hb dM_cartridge_57 (by decide) (fun cq => ?_) (fun cq => ?_)
      · replace hd := ts_if_p cq hd
        refine lv_iload_n hx hb dM_cartridge_96 rfl (lv_at hl 3 rfl) ?_
        exact ts_iret hx hb hr hlk (vp_nar_int _) hw hd dM_cartridge_97
      · replace hd := ts_if_n cq hd
        refine lv_aload_n hx hb dM_cartridge_60 rfl (lv_at hl 0 rfl) ?_
        refine lv_iload hx hb dM_cartridge_61 (lv_at hl 4 rfl) ?_
        obtain ⟨r63, u63, hq, hd⟩ := ts_b_s hd
        refine cM_105 hc hn hw hq hl.1 ⟨Nat.le_of_ble_eq_true rfl, Nat.le_of_ble_eq_true rfl⟩ (Nat.le_of_ble_eq_true rfl) dM_cartridge_63 (fun H locs hw => ?_)
        refine lv_if_eq (tgt := 90) hx hb dM_cartridge_66 (by decide) (fun cq => ?_) (fun cq => ?_)
        · replace hd := ts_if_p cq hd
          refine lv_iinc (v := (x4 + 1)) (lv' := [(4, .int (x4 + 1)), (0, .ref (ad 0)), (1, .int x1), (2, .int x2), (3, .int x3)]) hx hb dM_cartridge_90 hl (k := 4) rfl rfl (by decide) rfl (fun ls hl => ?_)
          refine lv_goto (tgt := 53) hx hb dM_cartridge_93 (by decide) ?_
          exact ih53 u63 x1 x2 x3 (x4 + 1) _ _ _ hd hw (lv_sub hl [1, 2, 3, 4, 0] rfl)
        · replace hd := ts_if_n cq hd
          refine lv_aload_n hx hb dM_cartridge_69 rfl (lv_at hl 0 rfl) ?_
          refine gM_22 hc hn hw dM_cartridge_70 ?_
          refine lv_iload hx hb dM_cartridge_73 (lv_at hl 4 rfl) ?_
          obtain ⟨h, hd⟩ := ts_ix_s hd
          refine mm_l5 hc hw h dM_cartridge_75 ?_
          refine lv_iload_n hx hb dM_cartridge_76 rfl (lv_at hl 1 rfl) ?_
          refine lv_icmp_ne (tgt := 90) hx hb dM_cartridge_77 (by decide) (fun cq => ?_) (fun cq => ?_)
          · replace hd := ts_if_n cq hd
            refine lv_iinc (v := (x4 + 1)) (lv' := [(4, .int (x4 + 1)), (0, .ref (ad 0)), (1, .int x1), (2, .int x2), (3, .int x3)]) hx hb dM_cartridge_90 hl (k := 4) rfl rfl (by decide) rfl (fun ls hl => ?_)
            refine lv_goto (tgt := 53) hx hb dM_cartridge_93 (by decide) ?_
            exact ih53 u63 x1 x2 x3 (x4 + 1) _ _ _ hd hw (lv_sub hl [1, 2, 3, 4, 0] rfl)
          · replace hd := ts_if_p cq hd
            refine lv_iload_n hx hb dM_cartridge_80 rfl (lv_at hl 3 rfl) ?_
            refine lv_aload_n hx hb dM_cartridge_81 rfl (lv_at hl 0 rfl) ?_
            refine gM_13 hc hn hw dM_cartridge_82 ?_
            refine lv_iload hx hb dM_cartridge_85 (lv_at hl 4 rfl) ?_
            obtain ⟨h, hd⟩ := ts_ix_s hd
            refine mm_l3 hc hw h dM_cartridge_87 ?_
            refine lv_iadd hx hb dM_cartridge_88 ?_
            refine lv_istore_n (lv' := [(3, .int (x3 + (u63.2 3 x4.toNatClampNeg))), (0, .ref (ad 0)), (1, .int x1), (2, .int x2), (4, .int x4)]) hx hb dM_cartridge_89 rfl hl (by decide) rfl (fun ls hl => ?_)
            refine lv_iinc (v := (x4 + 1)) (lv' := [(4, .int (x4 + 1)), (3, .int (x3 + (u63.2 3 x4.toNatClampNeg))), (0, .ref (ad 0)), (1, .int x1), (2, .int x2)]) hx hb dM_cartridge_90 hl (k := 4) rfl rfl (by decide) rfl (fun ls hl => ?_)
            refine lv_goto (tgt := 53) hx hb dM_cartridge_93 (by decide) ?_
            exact ih53 u63 x1 x2 (x3 + (u63.2 3 x4.toNatClampNeg)) (x4 + 1) _ _ _ hd hw (lv_sub hl [2, 3, 4, 1, 0] rfl)
  unfold dm_cartridge at hd
  refine lv_iload_n hx hb dM_cartridge_0 rfl (lv_at hl 1 rfl) ?_
  refine lv_iconst (v := 4) hx hb dM_cartridge_1 (by decide) ?_
  obtain ⟨r2, u2, hq, hd⟩ := ts_b_s hd
  refine cM_51 hc hn hw hq hl.1 ⟨Nat.le_of_ble_eq_true rfl, Nat.le_of_ble_eq_true rfl⟩ (Nat.le_of_ble_eq_true rfl) dM_cartridge_2 (fun H locs hw => ?_)
  refine lv_if_eq (tgt := 16) hx hb dM_cartridge_5 (by decide) (fun cq => ?_) (fun cq => ?_)
  · replace hd := ts_if_p cq hd
    refine lv_iconst (v := (-1)) hx hb dM_cartridge_16 (by decide) ?_
    exact ts_iret hx hb hr hlk (vp_nar_int _) hw hd dM_cartridge_17
  · replace hd := ts_if_n cq hd
    refine lv_iload_n hx hb dM_cartridge_8 rfl (lv_at hl 2 rfl) ?_
    refine lv_iconst (v := 3) hx hb dM_cartridge_9 (by decide) ?_
    obtain ⟨r10, u10, hq, hd⟩ := ts_b_s hd
    refine cM_51 hc hn hw hq hl.1 ⟨Nat.le_of_ble_eq_true rfl, Nat.le_of_ble_eq_true rfl⟩ (Nat.le_of_ble_eq_true rfl) dM_cartridge_10 (fun H locs hw => ?_)
    refine lv_if_ne (tgt := 18) hx hb dM_cartridge_13 (by decide) (fun cq => ?_) (fun cq => ?_)
    · replace hd := ts_if_n cq hd
      refine lv_iload_n hx hb dM_cartridge_18 rfl (lv_at hl 2 rfl) ?_
      refine lv_if_ne (tgt := 29) hx hb dM_cartridge_19 (by decide) (fun cq => ?_) (fun cq => ?_)
      · replace hd := ts_if_n cq hd
        refine lv_iload_n hx hb dM_cartridge_29 rfl (lv_at hl 2 rfl) ?_
        refine lv_iconst (v := 2) hx hb dM_cartridge_30 (by decide) ?_
        refine lv_icmp_ne (tgt := 48) hx hb dM_cartridge_31 (by decide) (fun cq => ?_) (fun cq => ?_)
        · replace hd := ts_if_n cq hd
          refine lv_iconst (v := 0) hx hb dM_cartridge_48 (by decide) ?_
          refine lv_istore_n (lv' := [(3, .int 0), (0, .ref (ad 0)), (1, .int x1), (2, .int x2)]) hx hb dM_cartridge_49 rfl hl (by decide) rfl (fun ls hl => ?_)
          refine lv_iconst (v := 0) hx hb dM_cartridge_50 (by decide) ?_
          refine lv_istore (lv' := [(4, .int 0), (3, .int 0), (0, .ref (ad 0)), (1, .int x1), (2, .int x2)]) hx hb dM_cartridge_51 hl (by decide) rfl (fun ls hl => ?_)
          exact L53 40 u10 x1 x2 0 0 _ _ _ hd hw (lv_sub hl [2, 3, 4, 1, 0] rfl)
        · replace hd := ts_if_p cq hd
          refine lv_aload_n hx hb dM_cartridge_34 rfl (lv_at hl 0 rfl) ?_
          refine gM_41 hc hn hw dM_cartridge_35 ?_
          refine lv_iload_n hx hb dM_cartridge_38 rfl (lv_at hl 1 rfl) ?_
          refine lv_icmp_ne (tgt := 46) hx hb dM_cartridge_39 (by decide) (fun cq => ?_) (fun cq => ?_)
          · replace hd := ts_if_n cq hd
            refine lv_iconst (v := 0) hx hb dM_cartridge_46 (by decide) ?_
            exact ts_iret hx hb hr hlk (vp_nar_int _) hw hd dM_cartridge_47
          · replace hd := ts_if_p cq hd
            refine lv_iconst (v := 1) hx hb dM_cartridge_42 (by decide) ?_
            refine lv_goto (tgt := 47) hx hb dM_cartridge_43 (by decide) ?_
            exact ts_iret hx hb hr hlk (vp_nar_int _) hw hd dM_cartridge_47
      · replace hd := ts_if_p cq hd
        refine lv_aload_n hx hb dM_cartridge_22 rfl (lv_at hl 0 rfl) ?_
        refine gM_32 hc hn hw dM_cartridge_23 ?_
        refine lv_iload_n hx hb dM_cartridge_26 rfl (lv_at hl 1 rfl) ?_
        obtain ⟨h, hd⟩ := ts_ix_s hd
        refine mm_l10 hc hw h dM_cartridge_27 ?_
        exact ts_iret hx hb hr hlk (vp_nar_int _) hw hd dM_cartridge_28
    · replace hd := ts_if_p cq hd
      refine lv_iconst (v := (-1)) hx hb dM_cartridge_16 (by decide) ?_
      exact ts_iret hx hb hr hlk (vp_nar_int _) hw hd dM_cartridge_17
