def rM_count : Room := { frames := 1, cells := 0, slots := 0, locals := 22 }
set_option maxHeartbeats 4000000 in
set_option maxRecDepth 100000 in
theorem cm_count (l : Launch) {u : ts_S} {x1 : Int32} {r0 : Int32} {u0 : ts_S} (hd : dm_count u x1 = some (r0, u0)) : ts_Ci mF l yM_count (.code yM_count bM_count 2 (some .int) :: uW) rM_count (fun ad => [.ref (ad 0), .int x1]) u r0 u0 := by
  refine ts_in_i mF l (by decide) (fun p e s m args below meth c D ca ad A hc hn hr hlk hw => ?_)
  have hx := hc.1
  have hb := hc.2.1
  have hl := lv_entry ([.ref (ad 0), .int x1]) (n := 2) (Nat.le_of_ble_eq_true rfl)
  rw [lg_entry_eq]
  generalize (lg_sl ([.ref (ad 0), .int x1]) ++ List.replicate (2 - (lg_sl ([.ref (ad 0), .int x1])).length) Slot.unset).toArray = ls at hl ⊢
  replace hl : lv_has ls 2 [(0, .ref (ad 0)), (1, .int x1)] := hl
  unfold dm_count at hd
  refine lv_iload_n hx hb dM_count_0 rfl (lv_at hl 1 rfl) ?_
  refine lv_if_ne (tgt := 9) hx hb dM_count_1 (by decide) (fun cq => ?_) (fun cq => ?_)
  · replace hd := ts_if_n cq hd
    refine lv_iload_n hx hb dM_count_9 rfl (lv_at hl 1 rfl) ?_
    refine lv_iconst (v := 1) hx hb dM_count_10 (by decide) ?_
    refine lv_icmp_ne (tgt := 19) hx hb dM_count_11 (by decide) (fun cq => ?_) (fun cq => ?_)
    · replace hd := ts_if_n cq hd
      refine lv_iload_n hx hb dM_count_19 rfl (lv_at hl 1 rfl) ?_
      refine lv_iconst (v := 2) hx hb dM_count_20 (by decide) ?_
      refine lv_icmp_ne (tgt := 40) hx hb dM_count_21 (by decide) (fun cq => ?_) (fun cq => ?_)
      · replace hd := ts_if_n cq hd
        refine lv_iload_n hx hb dM_count_40 rfl (lv_at hl 1 rfl) ?_
        refine lv_iconst (v := 3) hx hb dM_count_41 (by decide) ?_
        refine lv_icmp_ne (tgt := 52) hx hb dM_count_42 (by decide) (fun cq => ?_) (fun cq => ?_)
        · replace hd := ts_if_n cq hd
          refine lv_iconst (v := (-1)) hx hb dM_count_52 (by decide) ?_
          exact ts_iret hx hb hr hlk (vp_nar_int _) hw hd dM_count_53
        · replace hd := ts_if_p cq hd
          refine lv_aload_n hx hb dM_count_45 rfl (lv_at hl 0 rfl) ?_
          obtain ⟨r46, u46, hq, hd⟩ := ts_b_s hd
          refine cM_99 hc hn hw hq hl.1 ⟨Nat.le_of_ble_eq_true rfl, Nat.le_of_ble_eq_true rfl⟩ (Nat.le_of_ble_eq_true rfl) dM_count_46 (fun H locs hw => ?_)
          refine lv_goto (tgt := 53) hx hb dM_count_49 (by decide) ?_
          exact ts_iret hx hb hr hlk (vp_nar_int _) hw hd dM_count_53
      · replace hd := ts_if_p cq hd
        refine lv_aload_n hx hb dM_count_24 rfl (lv_at hl 0 rfl) ?_
        refine gM_41 hc hn hw dM_count_25 ?_
        refine lv_if_ge (tgt := 35) hx hb dM_count_28 (by decide) (fun cq => ?_) (fun cq => ?_)
        · replace hd := ts_if_p cq hd
          refine lv_aload_n hx hb dM_count_35 rfl (lv_at hl 0 rfl) ?_
          refine gM_69 hc hn hw dM_count_36 ?_
          exact ts_iret hx hb hr hlk (vp_nar_int _) hw hd dM_count_39
        · replace hd := ts_if_n cq hd
          refine lv_iconst (v := 0) hx hb dM_count_31 (by decide) ?_
          refine lv_goto (tgt := 39) hx hb dM_count_32 (by decide) ?_
          exact ts_iret hx hb hr hlk (vp_nar_int _) hw hd dM_count_39
    · replace hd := ts_if_p cq hd
      refine lv_aload_n hx hb dM_count_14 rfl (lv_at hl 0 rfl) ?_
      refine gM_66 hc hn hw dM_count_15 ?_
      exact ts_iret hx hb hr hlk (vp_nar_int _) hw hd dM_count_18
  · replace hd := ts_if_p cq hd
    refine lv_aload_n hx hb dM_count_4 rfl (lv_at hl 0 rfl) ?_
    obtain ⟨r5, u5, hq, hd⟩ := ts_b_s hd
    refine cM_58 hc hn hw hq hl.1 ⟨Nat.le_of_ble_eq_true rfl, Nat.le_of_ble_eq_true rfl⟩ (Nat.le_of_ble_eq_true rfl) dM_count_5 (fun H locs hw => ?_)
    exact ts_iret hx hb hr hlk (vp_nar_int _) hw hd dM_count_8
