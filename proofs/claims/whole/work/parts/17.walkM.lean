def rM_remove : Room := { frames := 2, cells := 0, slots := 0, locals := 42 }
set_option maxHeartbeats 4000000 in
set_option maxRecDepth 100000 in
theorem cm_remove (l : Launch) {u : ts_S} {x1 : Int32} {r0 : Int32} {u0 : ts_S} (hd : dm_remove u x1 = some (r0, u0)) : ts_Ci mF l yM_remove (.code yM_remove bM_remove 2 (some .int) :: uW) rM_remove (fun ad => [.ref (ad 0), .int x1]) u r0 u0 := by
  refine ts_in_i mF l (by decide) (fun p e s m args below meth c D ca ad A hc hn hr hlk hw => ?_)
  have hx := hc.1
  have hb := hc.2.1
  have hl := lv_entry ([.ref (ad 0), .int x1]) (n := 2) (Nat.le_of_ble_eq_true rfl)
  rw [lg_entry_eq]
  generalize (lg_sl ([.ref (ad 0), .int x1]) ++ List.replicate (2 - (lg_sl ([.ref (ad 0), .int x1])).length) Slot.unset).toArray = ls at hl ⊢
  replace hl : lv_has ls 2 [(0, .ref (ad 0)), (1, .int x1)] := hl
  unfold dm_remove at hd
  refine lv_aload_n hx hb dM_remove_0 rfl (lv_at hl 0 rfl) ?_
  refine lv_iload_n hx hb dM_remove_1 rfl (lv_at hl 1 rfl) ?_
  obtain ⟨r2, u2, hq, hd⟩ := ts_b_s hd
  refine cM_84 hc hn hw hq hl.1 ⟨Nat.le_of_ble_eq_true rfl, Nat.le_of_ble_eq_true rfl⟩ (Nat.le_of_ble_eq_true rfl) dM_remove_2 (fun H locs hw => ?_)
  refine lv_if_ne (tgt := 10) hx hb dM_remove_5 (by decide) (fun cq => ?_) (fun cq => ?_)
  · replace hd := ts_if_n cq hd
    refine lv_aload_n hx hb dM_remove_10 rfl (lv_at hl 0 rfl) ?_
    refine gM_7 hc hn hw dM_remove_11 ?_
    refine lv_iload_n hx hb dM_remove_14 rfl (lv_at hl 1 rfl) ?_
    refine lv_iconst (v := 0) hx hb dM_remove_15 (by decide) ?_
    obtain ⟨h, hd⟩ := ts_ix_s hd
    refine mm_s2 hc hw h dM_remove_16 (fun H locs hw => ?_)
    refine lv_aload_n hx hb dM_remove_17 rfl (lv_at hl 0 rfl) ?_
    refine gM_28 hc hn hw dM_remove_18 ?_
    refine lv_iload_n hx hb dM_remove_21 rfl (lv_at hl 1 rfl) ?_
    refine lv_iconst (v := 0) hx hb dM_remove_22 (by decide) ?_
    obtain ⟨h, hd⟩ := ts_ix_s hd
    refine mm_s7 hc hw h (by decide +kernel) dM_remove_23 (fun H locs hw => ?_)
    refine lv_iconst (v := 0) hx hb dM_remove_24 (by decide) ?_
    exact ts_iret hx hb hr hlk (vp_nar_int _) hw hd dM_remove_25
  · replace hd := ts_if_p cq hd
    refine lv_iconst (v := (-1)) hx hb dM_remove_8 (by decide) ?_
    exact ts_iret hx hb hr hlk (vp_nar_int _) hw hd dM_remove_9
def rM_copy : Room := { frames := 1, cells := 0, slots := 0, locals := 23 }
set_option maxHeartbeats 4000000 in
set_option maxRecDepth 100000 in
theorem cm_copy (l : Launch) {u : ts_S} {x1 x2 : Int32} {r0 : Int32} {u0 : ts_S} (hd : dm_copy u x1 x2 = some (r0, u0)) : ts_Ci mF l yM_copy (.code yM_copy bM_copy 5 (some .boolean) :: uW) rM_copy (fun ad => [.ref (ad 0), .int x1, .int x2]) u r0 u0 := by
  refine ts_in_i mF l (by decide) (fun p e s m args below meth c D ca ad A hc hn hr hlk hw => ?_)
  have hx := hc.1
  have hb := hc.2.1
  have hl := lv_entry ([.ref (ad 0), .int x1, .int x2]) (n := 5) (Nat.le_of_ble_eq_true rfl)
  rw [lg_entry_eq]
  generalize (lg_sl ([.ref (ad 0), .int x1, .int x2]) ++ List.replicate (5 - (lg_sl ([.ref (ad 0), .int x1, .int x2])).length) Slot.unset).toArray = ls at hl ⊢
  replace hl : lv_has ls 5 [(0, .ref (ad 0)), (1, .int x1), (2, .int x2)] := hl
  have L5 : ∀ (n : Nat) (u : ts_S) (x1 x2 x3 x4 : Int32) (H : Heap) (locs : List Loc) (ls : Array Slot), dm_copy_5 n u x1 x2 x3 x4 = some (r0, u0) → ts_W mF D ca ad A s H locs u → lv_has ls 5 [(0, .ref (ad 0)), (1, .int x1), (2, .int x2), (3, .int x3), (4, .int x4)] → W p l e rM_copy s m args below meth c H locs 0 0 (MQ below (va_Qi (fun r v => r = r0 ∧ v = u0) (ts_post mF D ca ad A) A) args s 0 0 A) (F0 m 5 ls []) := by
    intro n
    induction n with
    | zero => intro u x1 x2 x3 x4 H locs ls hd; cases (show (none : Option (Int32 × ts_S)) = some (r0, u0) from hd)
    | succ n5 ih5 =>
      intro u x1 x2 x3 x4 H locs ls hd hw hl
      replace hd : dm_copy_5_b (dm_copy_5 n5) u x1 x2 x3 x4 = some (r0, u0) := hd
      unfold dm_copy_5_b at hd
      refine lv_iload hx hb dM_copy_5 (lv_at hl 4 rfl) ?_
      refine lv_if_lt (tgt := 55) hx hb dM_copy_7 (by decide) (fun cq => ?_) (fun cq => ?_)
      · replace hd := ts_if_p cq hd
        refine lv_aload_n hx hb dM_copy_55 rfl (lv_at hl 0 rfl) ?_
        refine gM_41 hc hn hw dM_copy_56 ?_
        refine lv_if_lt (tgt := 98) hx hb dM_copy_59 (by decide) (fun cq => ?_) (fun cq => ?_)
        · replace hd := ts_if_p cq hd
          refine lv_iload_n hx hb dM_copy_98 rfl (lv_at hl 3 rfl) ?_
          refine lv_if_ge (tgt := 104) hx hb dM_copy_99 (by decide) (fun cq => ?_) (fun cq => ?_)
          · replace hd := ts_if_p cq hd
            refine lv_aload_n hx hb dM_copy_104 rfl (lv_at hl 0 rfl) ?_
            refine gM_22 hc hn hw dM_copy_105 ?_
            refine lv_iload_n hx hb dM_copy_108 rfl (lv_at hl 1 rfl) ?_
            refine lv_iload_n hx hb dM_copy_109 rfl (lv_at hl 3 rfl) ?_
            obtain ⟨h, hd⟩ := ts_ix_s hd
            refine mm_s5 hc hw h dM_copy_110 (fun H locs hw => ?_)
            refine lv_aload_n hx hb dM_copy_111 rfl (lv_at hl 0 rfl) ?_
            refine gM_25 hc hn hw dM_copy_112 ?_
            refine lv_iload_n hx hb dM_copy_115 rfl (lv_at hl 1 rfl) ?_
            refine lv_aload_n hx hb dM_copy_116 rfl (lv_at hl 0 rfl) ?_
            refine gM_32 hc hn hw dM_copy_117 ?_
            refine lv_iload_n hx hb dM_copy_120 rfl (lv_at hl 3 rfl) ?_
            obtain ⟨h, hd⟩ := ts_ix_s hd
            refine mm_l10 hc hw h dM_copy_121 ?_
            obtain ⟨h, hd⟩ := ts_ix_s hd
            refine mm_s6 hc hw h dM_copy_122 (fun H locs hw => ?_)
            refine lv_aload_n hx hb dM_copy_123 rfl (lv_at hl 0 rfl) ?_
            refine gM_32 hc hn hw dM_copy_124 ?_
            refine lv_iload_n hx hb dM_copy_127 rfl (lv_at hl 3 rfl) ?_
            refine lv_dup2_11 hx hb dM_copy_128 rfl rfl ?_
            obtain ⟨h, hd⟩ := ts_ix_s hd
            refine mm_l10 hc hw h dM_copy_129 ?_
            refine lv_aload_n hx hb dM_copy_130 rfl (lv_at hl 0 rfl) ?_
            refine gM_13 hc hn hw dM_copy_131 ?_
            refine lv_iload_n hx hb dM_copy_134 rfl (lv_at hl 1 rfl) ?_
            obtain ⟨h, hd⟩ := ts_ix_s hd
            refine mm_l3 hc hw h dM_copy_135 ?_
            refine lv_iadd hx hb dM_copy_136 ?_
            obtain ⟨h, hd⟩ := ts_ix_s hd
            refine mm_s10 hc hw h dM_copy_137 (fun H locs hw => ?_)
            refine lv_aload_n hx hb dM_copy_138 rfl (lv_at hl 0 rfl) ?_
            refine lv_iload_n hx hb dM_copy_139 rfl (lv_at hl 3 rfl) ?_
            refine lv_aload_n hx hb dM_copy_140 rfl (lv_at hl 0 rfl) ?_
            refine gM_25 hc hn hw dM_copy_141 ?_
            refine lv_iload_n hx hb dM_copy_144 rfl (lv_at hl 1 rfl) ?_
            obtain ⟨h, hd⟩ := ts_ix_s hd
            refine mm_l6 hc hw h dM_copy_145 ?_
            refine lv_aload_n hx hb dM_copy_146 rfl (lv_at hl 0 rfl) ?_
            refine gM_13 hc hn hw dM_copy_147 ?_
            refine lv_iload_n hx hb dM_copy_150 rfl (lv_at hl 1 rfl) ?_
            obtain ⟨h, hd⟩ := ts_ix_s hd
            refine mm_l3 hc hw h dM_copy_151 ?_
            obtain ⟨r152, u152, hq, hd⟩ := ts_b_s hd
            refine cM_76 hc hn hw hq hl.1 ⟨Nat.le_of_ble_eq_true rfl, Nat.le_of_ble_eq_true rfl⟩ (Nat.le_of_ble_eq_true rfl) dM_copy_152 (fun H locs hw => ?_)
            refine lv_iconst (v := 1) hx hb dM_copy_155 (by decide) ?_
            exact ts_iret hx hb hr hlk (by decide +kernel) hw hd dM_copy_156
          · replace hd := ts_if_n cq hd
            refine lv_iconst (v := 0) hx hb dM_copy_102 (by decide) ?_
            exact ts_iret hx hb hr hlk (by decide +kernel) hw hd dM_copy_103
        · replace hd := ts_if_n cq hd
          refine lv_aload_n hx hb dM_copy_62 rfl (lv_at hl 0 rfl) ?_
          refine gM_41 hc hn hw dM_copy_63 ?_
          refine lv_iload_n hx hb dM_copy_66 rfl (lv_at hl 2 rfl) ?_
          refine lv_icmp_eq (tgt := 98) hx hb dM_copy_67 (by decide) (fun cq => ?_) (fun cq => ?_)
          · replace hd := ts_if_p cq hd
            refine lv_iload_n hx hb dM_copy_98 rfl (lv_at hl 3 rfl) ?_
            refine lv_if_ge (tgt := 104) hx hb dM_copy_99 (by decide) (fun cq => ?_) (fun cq => ?_)
            · replace hd := ts_if_p cq hd
              refine lv_aload_n hx hb dM_copy_104 rfl (lv_at hl 0 rfl) ?_
              refine gM_22 hc hn hw dM_copy_105 ?_
              refine lv_iload_n hx hb dM_copy_108 rfl (lv_at hl 1 rfl) ?_
              refine lv_iload_n hx hb dM_copy_109 rfl (lv_at hl 3 rfl) ?_
              obtain ⟨h, hd⟩ := ts_ix_s hd
              refine mm_s5 hc hw h dM_copy_110 (fun H locs hw => ?_)
              refine lv_aload_n hx hb dM_copy_111 rfl (lv_at hl 0 rfl) ?_
              refine gM_25 hc hn hw dM_copy_112 ?_
              refine lv_iload_n hx hb dM_copy_115 rfl (lv_at hl 1 rfl) ?_
              refine lv_aload_n hx hb dM_copy_116 rfl (lv_at hl 0 rfl) ?_
              refine gM_32 hc hn hw dM_copy_117 ?_
              refine lv_iload_n hx hb dM_copy_120 rfl (lv_at hl 3 rfl) ?_
              obtain ⟨h, hd⟩ := ts_ix_s hd
              refine mm_l10 hc hw h dM_copy_121 ?_
              obtain ⟨h, hd⟩ := ts_ix_s hd
              refine mm_s6 hc hw h dM_copy_122 (fun H locs hw => ?_)
              refine lv_aload_n hx hb dM_copy_123 rfl (lv_at hl 0 rfl) ?_
              refine gM_32 hc hn hw dM_copy_124 ?_
              refine lv_iload_n hx hb dM_copy_127 rfl (lv_at hl 3 rfl) ?_
              refine lv_dup2_11 hx hb dM_copy_128 rfl rfl ?_
              obtain ⟨h, hd⟩ := ts_ix_s hd
              refine mm_l10 hc hw h dM_copy_129 ?_
              refine lv_aload_n hx hb dM_copy_130 rfl (lv_at hl 0 rfl) ?_
              refine gM_13 hc hn hw dM_copy_131 ?_
              refine lv_iload_n hx hb dM_copy_134 rfl (lv_at hl 1 rfl) ?_
              obtain ⟨h, hd⟩ := ts_ix_s hd
              refine mm_l3 hc hw h dM_copy_135 ?_
              refine lv_iadd hx hb dM_copy_136 ?_
              obtain ⟨h, hd⟩ := ts_ix_s hd
              refine mm_s10 hc hw h dM_copy_137 (fun H locs hw => ?_)
              refine lv_aload_n hx hb dM_copy_138 rfl (lv_at hl 0 rfl) ?_
              refine lv_iload_n hx hb dM_copy_139 rfl (lv_at hl 3 rfl) ?_
              refine lv_aload_n hx hb dM_copy_140 rfl (lv_at hl 0 rfl) ?_
              refine gM_25 hc hn hw dM_copy_141 ?_
              refine lv_iload_n hx hb dM_copy_144 rfl (lv_at hl 1 rfl) ?_
              obtain ⟨h, hd⟩ := ts_ix_s hd
              refine mm_l6 hc hw h dM_copy_145 ?_
              refine lv_aload_n hx hb dM_copy_146 rfl (lv_at hl 0 rfl) ?_
              refine gM_13 hc hn hw dM_copy_147 ?_
              refine lv_iload_n hx hb dM_copy_150 rfl (lv_at hl 1 rfl) ?_
              obtain ⟨h, hd⟩ := ts_ix_s hd
              refine mm_l3 hc hw h dM_copy_151 ?_
              obtain ⟨r152, u152, hq, hd⟩ := ts_b_s hd
              refine cM_76 hc hn hw hq hl.1 ⟨Nat.le_of_ble_eq_true rfl, Nat.le_of_ble_eq_true rfl⟩ (Nat.le_of_ble_eq_true rfl) dM_copy_152 (fun H locs hw => ?_)
              refine lv_iconst (v := 1) hx hb dM_copy_155 (by decide) ?_
              exact ts_iret hx hb hr hlk (by decide +kernel) hw hd dM_copy_156
            · replace hd := ts_if_n cq hd
              refine lv_iconst (v := 0) hx hb dM_copy_102 (by decide) ?_
              exact ts_iret hx hb hr hlk (by decide +kernel) hw hd dM_copy_103
          · replace hd := ts_if_n cq hd
            refine lv_aload_n hx hb dM_copy_70 rfl (lv_at hl 0 rfl) ?_
            refine gM_32 hc hn hw dM_copy_71 ?_
            refine lv_aload_n hx hb dM_copy_74 rfl (lv_at hl 0 rfl) ?_
            refine gM_41 hc hn hw dM_copy_75 ?_
            obtain ⟨h, hd⟩ := ts_ix_s hd
            refine mm_l10 hc hw h dM_copy_78 ?_
            refine lv_aload_n hx hb dM_copy_79 rfl (lv_at hl 0 rfl) ?_
            refine gM_13 hc hn hw dM_copy_80 ?_
            refine lv_iload_n hx hb dM_copy_83 rfl (lv_at hl 1 rfl) ?_
            obtain ⟨h, hd⟩ := ts_ix_s hd
            refine mm_l3 hc hw h dM_copy_84 ?_
            refine lv_iadd hx hb dM_copy_85 ?_
            refine lv_aload_n hx hb dM_copy_86 rfl (lv_at hl 0 rfl) ?_
            refine gM_48 hc hn hw dM_copy_87 ?_
            refine lv_icmp_gt (tgt := 98) hx hb dM_copy_90 (by decide) (fun cq => ?_) (fun cq => ?_)
            · replace hd := ts_if_p cq hd
              refine lv_iload_n hx hb dM_copy_98 rfl (lv_at hl 3 rfl) ?_
              refine lv_if_ge (tgt := 104) hx hb dM_copy_99 (by decide) (fun cq => ?_) (fun cq => ?_)
              · replace hd := ts_if_p cq hd
                refine lv_aload_n hx hb dM_copy_104 rfl (lv_at hl 0 rfl) ?_
                refine gM_22 hc hn hw dM_copy_105 ?_
                refine lv_iload_n hx hb dM_copy_108 rfl (lv_at hl 1 rfl) ?_
                refine lv_iload_n hx hb dM_copy_109 rfl (lv_at hl 3 rfl) ?_
                obtain ⟨h, hd⟩ := ts_ix_s hd
                refine mm_s5 hc hw h dM_copy_110 (fun H locs hw => ?_)
                refine lv_aload_n hx hb dM_copy_111 rfl (lv_at hl 0 rfl) ?_
                refine gM_25 hc hn hw dM_copy_112 ?_
                refine lv_iload_n hx hb dM_copy_115 rfl (lv_at hl 1 rfl) ?_
                refine lv_aload_n hx hb dM_copy_116 rfl (lv_at hl 0 rfl) ?_
                refine gM_32 hc hn hw dM_copy_117 ?_
                refine lv_iload_n hx hb dM_copy_120 rfl (lv_at hl 3 rfl) ?_
                obtain ⟨h, hd⟩ := ts_ix_s hd
                refine mm_l10 hc hw h dM_copy_121 ?_
                obtain ⟨h, hd⟩ := ts_ix_s hd
                refine mm_s6 hc hw h dM_copy_122 (fun H locs hw => ?_)
                refine lv_aload_n hx hb dM_copy_123 rfl (lv_at hl 0 rfl) ?_
                refine gM_32 hc hn hw dM_copy_124 ?_
                refine lv_iload_n hx hb dM_copy_127 rfl (lv_at hl 3 rfl) ?_
                refine lv_dup2_11 hx hb dM_copy_128 rfl rfl ?_
                obtain ⟨h, hd⟩ := ts_ix_s hd
                refine mm_l10 hc hw h dM_copy_129 ?_
                refine lv_aload_n hx hb dM_copy_130 rfl (lv_at hl 0 rfl) ?_
                refine gM_13 hc hn hw dM_copy_131 ?_
                refine lv_iload_n hx hb dM_copy_134 rfl (lv_at hl 1 rfl) ?_
                obtain ⟨h, hd⟩ := ts_ix_s hd
                refine mm_l3 hc hw h dM_copy_135 ?_
                refine lv_iadd hx hb dM_copy_136 ?_
                obtain ⟨h, hd⟩ := ts_ix_s hd
                refine mm_s10 hc hw h dM_copy_137 (fun H locs hw => ?_)
                refine lv_aload_n hx hb dM_copy_138 rfl (lv_at hl 0 rfl) ?_
                refine lv_iload_n hx hb dM_copy_139 rfl (lv_at hl 3 rfl) ?_
                refine lv_aload_n hx hb dM_copy_140 rfl (lv_at hl 0 rfl) ?_
                refine gM_25 hc hn hw dM_copy_141 ?_
                refine lv_iload_n hx hb dM_copy_144 rfl (lv_at hl 1 rfl) ?_
                obtain ⟨h, hd⟩ := ts_ix_s hd
                refine mm_l6 hc hw h dM_copy_145 ?_
                refine lv_aload_n hx hb dM_copy_146 rfl (lv_at hl 0 rfl) ?_
                refine gM_13 hc hn hw dM_copy_147 ?_
                refine lv_iload_n hx hb dM_copy_150 rfl (lv_at hl 1 rfl) ?_
                obtain ⟨h, hd⟩ := ts_ix_s hd
                refine mm_l3 hc hw h dM_copy_151 ?_
                obtain ⟨r152, u152, hq, hd⟩ := ts_b_s hd
                refine cM_76 hc hn hw hq hl.1 ⟨Nat.le_of_ble_eq_true rfl, Nat.le_of_ble_eq_true rfl⟩ (Nat.le_of_ble_eq_true rfl) dM_copy_152 (fun H locs hw => ?_)
                refine lv_iconst (v := 1) hx hb dM_copy_155 (by decide) ?_
                exact ts_iret hx hb hr hlk (by decide +kernel) hw hd dM_copy_156
              · replace hd := ts_if_n cq hd
                refine lv_iconst (v := 0) hx hb dM_copy_102 (by decide) ?_
                exact ts_iret hx hb hr hlk (by decide +kernel) hw hd dM_copy_103
            · replace hd := ts_if_n cq hd
              refine lv_aload_n hx hb dM_copy_93 rfl (lv_at hl 0 rfl) ?_
              refine gM_41 hc hn hw dM_copy_94 ?_
              refine lv_istore_n (lv' := [(3, .int (u.1 4)), (0, .ref (ad 0)), (1, .int x1), (2, .int x2), (4, .int x4)]) hx hb dM_copy_97 rfl hl (by decide) rfl (fun ls hl => ?_)
              refine lv_iload_n hx hb dM_copy_98 rfl (lv_at hl 0 rfl) ?_
              refine lv_if_ge (tgt := 104) hx hb dM_copy_99 (by decide) (fun cq => ?_) (fun cq => ?_)
              · replace hd := ts_if_p cq hd
                refine lv_aload_n hx hb dM_copy_104 rfl (lv_at hl 1 rfl) ?_
                refine gM_22 hc hn hw dM_copy_105 ?_
                refine lv_iload_n hx hb dM_copy_108 rfl (lv_at hl 2 rfl) ?_
                refine lv_iload_n hx hb dM_copy_109 rfl (lv_at hl 0 rfl) ?_
                obtain ⟨h, hd⟩ := ts_ix_s hd
                refine mm_s5 hc hw h dM_copy_110 (fun H locs hw => ?_)
                refine lv_aload_n hx hb dM_copy_111 rfl (lv_at hl 1 rfl) ?_
                refine gM_25 hc hn hw dM_copy_112 ?_
                refine lv_iload_n hx hb dM_copy_115 rfl (lv_at hl 2 rfl) ?_
                refine lv_aload_n hx hb dM_copy_116 rfl (lv_at hl 1 rfl) ?_
                refine gM_32 hc hn hw dM_copy_117 ?_
                refine lv_iload_n hx hb dM_copy_120 rfl (lv_at hl 0 rfl) ?_
                obtain ⟨h, hd⟩ := ts_ix_s hd
                refine mm_l10 hc hw h dM_copy_121 ?_
                obtain ⟨h, hd⟩ := ts_ix_s hd
                refine mm_s6 hc hw h dM_copy_122 (fun H locs hw => ?_)
                refine lv_aload_n hx hb dM_copy_123 rfl (lv_at hl 1 rfl) ?_
                refine gM_32 hc hn hw dM_copy_124 ?_
                refine lv_iload_n hx hb dM_copy_127 rfl (lv_at hl 0 rfl) ?_
                refine lv_dup2_11 hx hb dM_copy_128 rfl rfl ?_
                obtain ⟨h, hd⟩ := ts_ix_s hd
                refine mm_l10 hc hw h dM_copy_129 ?_
                refine lv_aload_n hx hb dM_copy_130 rfl (lv_at hl 1 rfl) ?_
                refine gM_13 hc hn hw dM_copy_131 ?_
                refine lv_iload_n hx hb dM_copy_134 rfl (lv_at hl 2 rfl) ?_
                obtain ⟨h, hd⟩ := ts_ix_s hd
                refine mm_l3 hc hw h dM_copy_135 ?_
                refine lv_iadd hx hb dM_copy_136 ?_
                obtain ⟨h, hd⟩ := ts_ix_s hd
                refine mm_s10 hc hw h dM_copy_137 (fun H locs hw => ?_)
                refine lv_aload_n hx hb dM_copy_138 rfl (lv_at hl 1 rfl) ?_
                refine lv_iload_n hx hb dM_copy_139 rfl (lv_at hl 0 rfl) ?_
                refine lv_aload_n hx hb dM_copy_140 rfl (lv_at hl 1 rfl) ?_
                refine gM_25 hc hn hw dM_copy_141 ?_
                refine lv_iload_n hx hb dM_copy_144 rfl (lv_at hl 2 rfl) ?_
                obtain ⟨h, hd⟩ := ts_ix_s hd
                refine mm_l6 hc hw h dM_copy_145 ?_
                refine lv_aload_n hx hb dM_copy_146 rfl (lv_at hl 1 rfl) ?_
                refine gM_13 hc hn hw dM_copy_147 ?_
                refine lv_iload_n hx hb dM_copy_150 rfl (lv_at hl 2 rfl) ?_
                obtain ⟨h, hd⟩ := ts_ix_s hd
                refine mm_l3 hc hw h dM_copy_151 ?_
                obtain ⟨r152, u152, hq, hd⟩ := ts_b_s hd
                refine cM_76 hc hn hw hq hl.1 ⟨Nat.le_of_ble_eq_true rfl, Nat.le_of_ble_eq_true rfl⟩ (Nat.le_of_ble_eq_true rfl) dM_copy_152 (fun H locs hw => ?_)
                refine lv_iconst (v := 1) hx hb dM_copy_155 (by decide) ?_
                exact ts_iret hx hb hr hlk (by decide +kernel) hw hd dM_copy_156
              · replace hd := ts_if_n cq hd
                refine lv_iconst (v := 0) hx hb dM_copy_102 (by decide) ?_
                exact ts_iret hx hb hr hlk (by decide +kernel) hw hd dM_copy_103
      · replace hd := ts_if_n cq hd
        refine lv_iload hx hb dM_copy_10 (lv_at hl 4 rfl) ?_
        refine lv_iload_n hx hb dM_copy_12 rfl (lv_at hl 2 rfl) ?_
        refine lv_icmp_eq (tgt := 49) hx hb dM_copy_13 (by decide) (fun cq => ?_) (fun cq => ?_)
        · replace hd := ts_if_p cq hd
          refine lv_iinc (v := (x4 + (-1))) (lv' := [(4, .int (x4 + (-1))), (0, .ref (ad 0)), (1, .int x1), (2, .int x2), (3, .int x3)]) hx hb dM_copy_49 hl (k := 4) rfl rfl (by decide) rfl (fun ls hl => ?_)
          refine lv_goto (tgt := 5) hx hb dM_copy_52 (by decide) ?_
          exact ih5 u x1 x2 x3 (x4 + (-1)) _ _ _ hd hw (lv_sub hl [1, 2, 3, 4, 0] rfl)
        · replace hd := ts_if_n cq hd
          refine lv_iload hx hb dM_copy_16 (lv_at hl 4 rfl) ?_
          refine lv_aload_n hx hb dM_copy_18 rfl (lv_at hl 0 rfl) ?_
          refine gM_41 hc hn hw dM_copy_19 ?_
          refine lv_icmp_eq (tgt := 49) hx hb dM_copy_22 (by decide) (fun cq => ?_) (fun cq => ?_)
          · replace hd := ts_if_p cq hd
            refine lv_iinc (v := (x4 + (-1))) (lv' := [(4, .int (x4 + (-1))), (0, .ref (ad 0)), (1, .int x1), (2, .int x2), (3, .int x3)]) hx hb dM_copy_49 hl (k := 4) rfl rfl (by decide) rfl (fun ls hl => ?_)
            refine lv_goto (tgt := 5) hx hb dM_copy_52 (by decide) ?_
            exact ih5 u x1 x2 x3 (x4 + (-1)) _ _ _ hd hw (lv_sub hl [1, 2, 3, 4, 0] rfl)
          · replace hd := ts_if_n cq hd
            refine lv_aload_n hx hb dM_copy_25 rfl (lv_at hl 0 rfl) ?_
            refine gM_32 hc hn hw dM_copy_26 ?_
            refine lv_iload hx hb dM_copy_29 (lv_at hl 4 rfl) ?_
            obtain ⟨h, hd⟩ := ts_ix_s hd
            refine mm_l10 hc hw h dM_copy_31 ?_
            refine lv_aload_n hx hb dM_copy_32 rfl (lv_at hl 0 rfl) ?_
            refine gM_13 hc hn hw dM_copy_33 ?_
            refine lv_iload_n hx hb dM_copy_36 rfl (lv_at hl 1 rfl) ?_
            obtain ⟨h, hd⟩ := ts_ix_s hd
            refine mm_l3 hc hw h dM_copy_37 ?_
            refine lv_iadd hx hb dM_copy_38 ?_
            refine lv_aload_n hx hb dM_copy_39 rfl (lv_at hl 0 rfl) ?_
            refine gM_48 hc hn hw dM_copy_40 ?_
            refine lv_icmp_gt (tgt := 49) hx hb dM_copy_43 (by decide) (fun cq => ?_) (fun cq => ?_)
            · replace hd := ts_if_p cq hd
              refine lv_iinc (v := (x4 + (-1))) (lv' := [(4, .int (x4 + (-1))), (0, .ref (ad 0)), (1, .int x1), (2, .int x2), (3, .int x3)]) hx hb dM_copy_49 hl (k := 4) rfl rfl (by decide) rfl (fun ls hl => ?_)
              refine lv_goto (tgt := 5) hx hb dM_copy_52 (by decide) ?_
              exact ih5 u x1 x2 x3 (x4 + (-1)) _ _ _ hd hw (lv_sub hl [1, 2, 3, 4, 0] rfl)
            · replace hd := ts_if_n cq hd
              refine lv_iload hx hb dM_copy_46 (lv_at hl 4 rfl) ?_
              refine lv_istore_n (lv' := [(3, .int x4), (0, .ref (ad 0)), (1, .int x1), (2, .int x2), (4, .int x4)]) hx hb dM_copy_48 rfl hl (by decide) rfl (fun ls hl => ?_)
              refine lv_iinc (v := (x4 + (-1))) (lv' := [(4, .int (x4 + (-1))), (3, .int x4), (0, .ref (ad 0)), (1, .int x1), (2, .int x2)]) hx hb dM_copy_49 hl (k := 4) rfl rfl (by decide) rfl (fun ls hl => ?_)
              refine lv_goto (tgt := 5) hx hb dM_copy_52 (by decide) ?_
              exact ih5 u x1 x2 x4 (x4 + (-1)) _ _ _ hd hw (lv_sub hl [2, 3, 4, 1, 0] rfl)
  unfold dm_copy at hd
  refine lv_iconst (v := (-1)) hx hb dM_copy_0 (by decide) ?_
  refine lv_istore_n (lv' := [(3, .int (-1)), (0, .ref (ad 0)), (1, .int x1), (2, .int x2)]) hx hb dM_copy_1 rfl hl (by decide) rfl (fun ls hl => ?_)
  refine lv_iconst (v := 3) hx hb dM_copy_2 (by decide) ?_
  refine lv_istore (lv' := [(4, .int 3), (3, .int (-1)), (0, .ref (ad 0)), (1, .int x1), (2, .int x2)]) hx hb dM_copy_3 hl (by decide) rfl (fun ls hl => ?_)
  exact L5 40 u x1 x2 (-1) 3 _ _ _ hd hw (lv_sub hl [2, 3, 4, 1, 0] rfl)
section
variable {p : Program} {l : Launch} {e : Env} {R : Room} {s : State} {m : MethodId} {args : Array Value} {below : List Frame} {meth : Method} {c : Code} {H : Heap} {locs : List Loc} {Q : State → Prop} {cc : ByteArray} {pc nL : Nat} {ls : Array Slot} {rest : List Value} {D : va_G} {ca : Nat → ClassId} {ad : Nat → Nat} {A : Nat → Prop} {u : ts_S} {cells slots : Nat}
theorem cM_96 (hc : CallFix p m c cc nL s args uW RM) (hn : nx s) (hw : ts_W mF D ca ad A s H locs u) {x1 x2 : Int32} {r0 : Int32} {u0 : ts_S} (hq : dm_copy u x1 x2 = some (r0, u0)) (hsz : ls.size = nL) (hR : rM_copy.frames + 1 ≤ R.frames ∧ 8 + (5 + 11) + rM_copy.locals ≤ R.locals) (hrest : (rest.map fun v => v.category).sum ≤ 8) (hdg : decode cc pc = .ok (.invokevirtual 96, 3)) (kk : ∀ (H1 : Heap) (locs1 : List Loc), ts_W mF D ca ad A s H1 locs1 u0 → W p l e R s m args below meth c H1 locs1 0 0 Q (F0 m (pc + 3) ls (.int r0 :: rest))) : W p l e R s m args below meth c H locs 0 0 Q (F0 m pc ls (.int x2 :: .int x1 :: .ref (ad 0) :: rest)) :=
  ts_callVi (b := ad 0) (As := [.int x1, .int x2]) hc hn hw (cm_copy l hq) rfl (cwV 2 hc.2.2.2.2 (gd_V (by decide +kernel) (by decide +kernel) (by decide +kernel) (by decide +kernel) (code_M_copy)) rfl rfl rfl (by decide +kernel) hR) (va_recv hw.2.2.2.1 hw.1 (ci := 2) (q0 := 0) rfl rfl) rfl hsz hrest hdg kk
end
def rM_backUp : Room := { frames := 2, cells := 0, slots := 0, locals := 47 }
set_option maxHeartbeats 4000000 in
set_option maxRecDepth 100000 in
theorem cm_backUp (l : Launch) {u : ts_S} {r0 : Int32} {u0 : ts_S} (hd : dm_backUp u = some (r0, u0)) : ts_Ci mF l yM_backUp (.code yM_backUp bM_backUp 2 (some .int) :: uW) rM_backUp (fun ad => [.ref (ad 0)]) u r0 u0 := by
  refine ts_in_i mF l (by decide) (fun p e s m args below meth c D ca ad A hc hn hr hlk hw => ?_)
  have hx := hc.1
  have hb := hc.2.1
  have hl := lv_entry ([.ref (ad 0)]) (n := 2) (Nat.le_of_ble_eq_true rfl)
  rw [lg_entry_eq]
  generalize (lg_sl ([.ref (ad 0)]) ++ List.replicate (2 - (lg_sl ([.ref (ad 0)])).length) Slot.unset).toArray = ls at hl ⊢
  replace hl : lv_has ls 2 [(0, .ref (ad 0))] := hl
  unfold dm_backUp at hd
  refine lv_aload_n hx hb dM_backUp_0 rfl (lv_at hl 0 rfl) ?_
  refine lv_iconst (v := 1) hx hb dM_backUp_1 (by decide) ?_
  obtain ⟨r2, u2, hq, hd⟩ := ts_b_s hd
  refine cM_62 hc hn hw hq hl.1 ⟨Nat.le_of_ble_eq_true rfl, Nat.le_of_ble_eq_true rfl⟩ (Nat.le_of_ble_eq_true rfl) dM_backUp_2 (fun H locs hw => ?_)
  refine lv_istore_n (lv' := [(1, .int r2), (0, .ref (ad 0))]) hx hb dM_backUp_5 rfl hl (by decide) rfl (fun ls hl => ?_)
  refine lv_iload_n hx hb dM_backUp_6 rfl (lv_at hl 0 rfl) ?_
  refine lv_if_ge (tgt := 12) hx hb dM_backUp_7 (by decide) (fun cq => ?_) (fun cq => ?_)
  · replace hd := ts_if_p cq hd
    refine lv_aload_n hx hb dM_backUp_12 rfl (lv_at hl 1 rfl) ?_
    refine lv_iload_n hx hb dM_backUp_13 rfl (lv_at hl 0 rfl) ?_
    refine lv_iconst (v := (-1)) hx hb dM_backUp_14 (by decide) ?_
    obtain ⟨r15, u15, hq, hd⟩ := ts_b_s hd
    refine cM_96 hc hn hw hq hl.1 ⟨Nat.le_of_ble_eq_true rfl, Nat.le_of_ble_eq_true rfl⟩ (Nat.le_of_ble_eq_true rfl) dM_backUp_15 (fun H locs hw => ?_)
    refine lv_if_ne (tgt := 24) hx hb dM_backUp_18 (by decide) (fun cq => ?_) (fun cq => ?_)
    · replace hd := ts_if_n cq hd
      refine lv_aload_n hx hb dM_backUp_24 rfl (lv_at hl 1 rfl) ?_
      refine gM_7 hc hn hw dM_backUp_25 ?_
      refine lv_iload_n hx hb dM_backUp_28 rfl (lv_at hl 0 rfl) ?_
      refine lv_iconst (v := 2) hx hb dM_backUp_29 (by decide) ?_
      obtain ⟨h, hd⟩ := ts_ix_s hd
      refine mm_s2 hc hw h dM_backUp_30 (fun H locs hw => ?_)
      refine lv_iload_n hx hb dM_backUp_31 rfl (lv_at hl 0 rfl) ?_
      exact ts_iret hx hb hr hlk (vp_nar_int _) hw hd dM_backUp_32
    · replace hd := ts_if_p cq hd
      refine lv_bipush (v := (-2)) hx hb dM_backUp_21 (by decide) ?_
      exact ts_iret hx hb hr hlk (vp_nar_int _) hw hd dM_backUp_23
  · replace hd := ts_if_n cq hd
    refine lv_iconst (v := (-1)) hx hb dM_backUp_10 (by decide) ?_
    exact ts_iret hx hb hr hlk (vp_nar_int _) hw hd dM_backUp_11
def rM_tidy : Room := { frames := 1, cells := 0, slots := 0, locals := 23 }
set_option maxHeartbeats 4000000 in
set_option maxRecDepth 100000 in
theorem cm_tidy (l : Launch) {u : ts_S} {x1 x2 : Int32} {r0 : Int32} {u0 : ts_S} (hd : dm_tidy u x1 x2 = some (r0, u0)) : ts_Ci mF l yM_tidy (.code yM_tidy bM_tidy 7 (some .int) :: uW) rM_tidy (fun ad => [.ref (ad 0), .int x1, .int x2]) u r0 u0 := by
  refine ts_in_i mF l (by decide) (fun p e s m args below meth c D ca ad A hc hn hr hlk hw => ?_)
  have hx := hc.1
  have hb := hc.2.1
  have hl := lv_entry ([.ref (ad 0), .int x1, .int x2]) (n := 7) (Nat.le_of_ble_eq_true rfl)
  rw [lg_entry_eq]
  generalize (lg_sl ([.ref (ad 0), .int x1, .int x2]) ++ List.replicate (7 - (lg_sl ([.ref (ad 0), .int x1, .int x2])).length) Slot.unset).toArray = ls at hl ⊢
  replace hl : lv_has ls 7 [(0, .ref (ad 0)), (1, .int x1), (2, .int x2)] := hl
  have L45 : ∀ (n : Nat) (u : ts_S) (x1 x2 x3 x4 x5 : Int32) (H : Heap) (locs : List Loc) (ls : Array Slot), dm_tidy_45 n u x1 x2 x3 x4 x5 = some (r0, u0) → ts_W mF D ca ad A s H locs u → lv_has ls 7 [(0, .ref (ad 0)), (1, .int x1), (2, .int x2), (3, .int x3), (4, .int x4), (5, .int x5)] → W p l e rM_tidy s m args below meth c H locs 0 0 (MQ below (va_Qi (fun r v => r = r0 ∧ v = u0) (ts_post mF D ca ad A) A) args s 0 0 A) (F0 m 45 ls []) := by
    intro n
    induction n with
    | zero => intro u x1 x2 x3 x4 x5 H locs ls hd; cases (show (none : Option (Int32 × ts_S)) = some (r0, u0) from hd)
    | succ n45 ih45 =>
      intro u x1 x2 x3 x4 x5 H locs ls hd hw hl
      replace hd : dm_tidy_45_b (dm_tidy_45 n45) u x1 x2 x3 x4 x5 = some (r0, u0) := hd
      unfold dm_tidy_45_b at hd
      refine lv_iload hx hb dM_tidy_45 (lv_at hl 5 rfl) ?_
      refine lv_bipush (v := 16) hx hb dM_tidy_47 (by decide) ?_
      refine lv_icmp_ge (tgt := 94) hx hb dM_tidy_49 (by decide) (fun cq => ?_) (fun cq => ?_)
      · replace hd := ts_if_p cq hd
        refine lv_iload_n hx hb dM_tidy_94 rfl (lv_at hl 3 rfl) ?_
        exact ts_iret hx hb hr hlk (vp_nar_int _) hw hd dM_tidy_95
      · replace hd := ts_if_n cq hd
        refine lv_aload_n hx hb dM_tidy_52 rfl (lv_at hl 0 rfl) ?_
        refine lv_iconst (v := 2) hx hb dM_tidy_53 (by decide) ?_
        obtain ⟨r54, u54, hq, hd⟩ := ts_b_s hd
        refine cM_62 hc hn hw hq hl.1 ⟨Nat.le_of_ble_eq_true rfl, Nat.le_of_ble_eq_true rfl⟩ (Nat.le_of_ble_eq_true rfl) dM_tidy_54 (fun H locs hw => ?_)
        refine lv_istore (lv' := [(6, .int r54), (0, .ref (ad 0)), (1, .int x1), (2, .int x2), (3, .int x3), (4, .int x4), (5, .int x5)]) hx hb dM_tidy_57 hl (by decide) rfl (fun ls hl => ?_)
        refine lv_iload hx hb dM_tidy_59 (lv_at hl 5 rfl) ?_
        refine lv_if_eq (tgt := 88) hx hb dM_tidy_61 (by decide) (fun cq => ?_) (fun cq => ?_)
        · replace hd := ts_if_p cq hd
          refine lv_iinc (v := (x5 + 1)) (lv' := [(5, .int (x5 + 1)), (6, .int r54), (0, .ref (ad 0)), (1, .int x1), (2, .int x2), (3, .int x3), (4, .int x4)]) hx hb dM_tidy_88 hl (k := 6) rfl rfl (by decide) rfl (fun ls hl => ?_)
          refine lv_goto (tgt := 45) hx hb dM_tidy_91 (by decide) ?_
          exact ih45 u54 x1 x2 x3 x4 (x5 + 1) _ _ _ hd hw (lv_sub hl [2, 3, 4, 5, 6, 0] rfl)
        · replace hd := ts_if_n cq hd
          refine lv_aload_n hx hb dM_tidy_64 rfl (lv_at hl 1 rfl) ?_
          obtain ⟨r65, u65, hq, hd⟩ := ts_b_s hd
          refine cM_58 hc hn hw hq hl.1 ⟨Nat.le_of_ble_eq_true rfl, Nat.le_of_ble_eq_true rfl⟩ (Nat.le_of_ble_eq_true rfl) dM_tidy_65 (fun H locs hw => ?_)
          refine lv_iload_n hx hb dM_tidy_68 rfl (lv_at hl 3 rfl) ?_
          refine lv_icmp_le (tgt := 88) hx hb dM_tidy_69 (by decide) (fun cq => ?_) (fun cq => ?_)
          · replace hd := ts_if_p cq hd
            refine lv_iinc (v := (x5 + 1)) (lv' := [(5, .int (x5 + 1)), (6, .int r54), (0, .ref (ad 0)), (1, .int x1), (2, .int x2), (3, .int x3), (4, .int x4)]) hx hb dM_tidy_88 hl (k := 6) rfl rfl (by decide) rfl (fun ls hl => ?_)
            refine lv_goto (tgt := 45) hx hb dM_tidy_91 (by decide) ?_
            exact ih45 u65 x1 x2 x3 x4 (x5 + 1) _ _ _ hd hw (lv_sub hl [2, 3, 4, 5, 6, 0] rfl)
          · replace hd := ts_if_n cq hd
            refine lv_iload hx hb dM_tidy_72 (lv_at hl 0 rfl) ?_
            refine lv_if_lt (tgt := 88) hx hb dM_tidy_74 (by decide) (fun cq => ?_) (fun cq => ?_)
            · replace hd := ts_if_p cq hd
              refine lv_iinc (v := (x5 + 1)) (lv' := [(5, .int (x5 + 1)), (6, .int r54), (0, .ref (ad 0)), (1, .int x1), (2, .int x2), (3, .int x3), (4, .int x4)]) hx hb dM_tidy_88 hl (k := 6) rfl rfl (by decide) rfl (fun ls hl => ?_)
              refine lv_goto (tgt := 45) hx hb dM_tidy_91 (by decide) ?_
              exact ih45 u65 x1 x2 x3 x4 (x5 + 1) _ _ _ hd hw (lv_sub hl [2, 3, 4, 5, 6, 0] rfl)
            · replace hd := ts_if_n cq hd
              refine lv_aload_n hx hb dM_tidy_77 rfl (lv_at hl 1 rfl) ?_
              refine gM_7 hc hn hw dM_tidy_78 ?_
              refine lv_iload hx hb dM_tidy_81 (lv_at hl 0 rfl) ?_
              refine lv_iconst (v := 3) hx hb dM_tidy_83 (by decide) ?_
              obtain ⟨h, hd⟩ := ts_ix_s hd
              refine mm_s2 hc hw h dM_tidy_84 (fun H locs hw => ?_)
              refine lv_iinc (v := (x3 + 1)) (lv' := [(3, .int (x3 + 1)), (6, .int r54), (0, .ref (ad 0)), (1, .int x1), (2, .int x2), (4, .int x4), (5, .int x5)]) hx hb dM_tidy_85 hl (k := 4) rfl rfl (by decide) rfl (fun ls hl => ?_)
              refine lv_iinc (v := (x5 + 1)) (lv' := [(5, .int (x5 + 1)), (3, .int (x3 + 1)), (6, .int r54), (0, .ref (ad 0)), (1, .int x1), (2, .int x2), (4, .int x4)]) hx hb dM_tidy_88 hl (k := 6) rfl rfl (by decide) rfl (fun ls hl => ?_)
              refine lv_goto (tgt := 45) hx hb dM_tidy_91 (by decide) ?_
              exact ih45 (ts_a 2 r54.toNatClampNeg 3 u65) x1 x2 (x3 + 1) x4 (x5 + 1) _ _ _ hd hw (lv_sub hl [3, 4, 5, 1, 6, 0] rfl)
  unfold dm_tidy at hd
  refine lv_iload_n hx hb dM_tidy_0 rfl (lv_at hl 1 rfl) ?_
  refine lv_bipush (v := 25) hx hb dM_tidy_1 (by decide) ?_
  obtain ⟨r3, u3, hq, hd⟩ := ts_b_s hd
  refine cM_51 hc hn hw hq hl.1 ⟨Nat.le_of_ble_eq_true rfl, Nat.le_of_ble_eq_true rfl⟩ (Nat.le_of_ble_eq_true rfl) dM_tidy_3 (fun H locs hw => ?_)
  refine lv_if_eq (tgt := 23) hx hb dM_tidy_6 (by decide) (fun cq => ?_) (fun cq => ?_)
  · replace hd := ts_if_p cq hd
    refine lv_iconst (v := (-1)) hx hb dM_tidy_23 (by decide) ?_
    exact ts_iret hx hb hr hlk (vp_nar_int _) hw hd dM_tidy_24
  · replace hd := ts_if_n cq hd
    refine lv_iload_n hx hb dM_tidy_9 rfl (lv_at hl 2 rfl) ?_
    refine lv_bipush (v := 25) hx hb dM_tidy_10 (by decide) ?_
    obtain ⟨r12, u12, hq, hd⟩ := ts_b_s hd
    refine cM_51 hc hn hw hq hl.1 ⟨Nat.le_of_ble_eq_true rfl, Nat.le_of_ble_eq_true rfl⟩ (Nat.le_of_ble_eq_true rfl) dM_tidy_12 (fun H locs hw => ?_)
    refine lv_if_eq (tgt := 23) hx hb dM_tidy_15 (by decide) (fun cq => ?_) (fun cq => ?_)
    · replace hd := ts_if_p cq hd
      refine lv_iconst (v := (-1)) hx hb dM_tidy_23 (by decide) ?_
      exact ts_iret hx hb hr hlk (vp_nar_int _) hw hd dM_tidy_24
    · replace hd := ts_if_n cq hd
      refine lv_iload_n hx hb dM_tidy_18 rfl (lv_at hl 2 rfl) ?_
      refine lv_iload_n hx hb dM_tidy_19 rfl (lv_at hl 1 rfl) ?_
      refine lv_icmp_le (tgt := 25) hx hb dM_tidy_20 (by decide) (fun cq => ?_) (fun cq => ?_)
      · replace hd := ts_if_p cq hd
        refine lv_iconst (v := 0) hx hb dM_tidy_25 (by decide) ?_
        refine lv_istore_n (lv' := [(3, .int 0), (0, .ref (ad 0)), (1, .int x1), (2, .int x2)]) hx hb dM_tidy_26 rfl hl (by decide) rfl (fun ls hl => ?_)
        refine lv_aload_n hx hb dM_tidy_27 rfl (lv_at hl 1 rfl) ?_
        obtain ⟨r28, u28, hq, hd⟩ := ts_b_s hd
        refine cM_58 hc hn hw hq hl.1 ⟨Nat.le_of_ble_eq_true rfl, Nat.le_of_ble_eq_true rfl⟩ (Nat.le_of_ble_eq_true rfl) dM_tidy_28 (fun H locs hw => ?_)
        refine lv_iload_n hx hb dM_tidy_31 rfl (lv_at hl 2 rfl) ?_
        refine lv_icmp_le (tgt := 39) hx hb dM_tidy_32 (by decide) (fun cq => ?_) (fun cq => ?_)
        · replace hd := ts_if_p cq hd
          refine lv_iconst (v := 0) hx hb dM_tidy_39 (by decide) ?_
          refine lv_istore (lv' := [(4, .int 0), (3, .int 0), (0, .ref (ad 0)), (1, .int x1), (2, .int x2)]) hx hb dM_tidy_40 hl (by decide) rfl (fun ls hl => ?_)
          refine lv_iconst (v := 0) hx hb dM_tidy_42 (by decide) ?_
          refine lv_istore (lv' := [(5, .int 0), (4, .int 0), (3, .int 0), (0, .ref (ad 0)), (1, .int x1), (2, .int x2)]) hx hb dM_tidy_43 hl (by decide) rfl (fun ls hl => ?_)
          exact L45 40 u28 x1 x2 0 0 0 _ _ _ hd hw (lv_sub hl [3, 4, 5, 2, 1, 0] rfl)
        · replace hd := ts_if_n cq hd
          refine lv_iconst (v := 1) hx hb dM_tidy_35 (by decide) ?_
          refine lv_goto (tgt := 40) hx hb dM_tidy_36 (by decide) ?_
          refine lv_istore (lv' := [(4, .int 1), (3, .int 0), (0, .ref (ad 0)), (1, .int x1), (2, .int x2)]) hx hb dM_tidy_40 hl (by decide) rfl (fun ls hl => ?_)
          refine lv_iconst (v := 0) hx hb dM_tidy_42 (by decide) ?_
          refine lv_istore (lv' := [(5, .int 0), (4, .int 1), (3, .int 0), (0, .ref (ad 0)), (1, .int x1), (2, .int x2)]) hx hb dM_tidy_43 hl (by decide) rfl (fun ls hl => ?_)
          exact L45 40 u28 x1 x2 0 1 0 _ _ _ hd hw (lv_sub hl [3, 4, 5, 2, 1, 0] rfl)
      · replace hd := ts_if_n cq hd
        refine lv_iconst (v := (-1)) hx hb dM_tidy_23 (by decide) ?_
        exact ts_iret hx hb hr hlk (vp_nar_int _) hw hd dM_tidy_24
def rM_waiting : Room := { frames := 0, cells := 0, slots := 0, locals := 0 }
set_option maxHeartbeats 4000000 in
set_option maxRecDepth 100000 in
theorem cm_waiting (l : Launch) {u : ts_S} {r0 : Int32} {u0 : ts_S} (hd : dm_waiting u = some (r0, u0)) : ts_Ci mF l yM_waiting (.code yM_waiting bM_waiting 3 (some .int) :: uW) rM_waiting (fun ad => [.ref (ad 0)]) u r0 u0 := by
  refine ts_in_i mF l (by decide) (fun p e s m args below meth c D ca ad A hc hn hr hlk hw => ?_)
  have hx := hc.1
  have hb := hc.2.1
  have hl := lv_entry ([.ref (ad 0)]) (n := 3) (Nat.le_of_ble_eq_true rfl)
  rw [lg_entry_eq]
  generalize (lg_sl ([.ref (ad 0)]) ++ List.replicate (3 - (lg_sl ([.ref (ad 0)])).length) Slot.unset).toArray = ls at hl ⊢
  replace hl : lv_has ls 3 [(0, .ref (ad 0))] := hl
  have L4 : ∀ (n : Nat) (u : ts_S) (x1 x2 : Int32) (H : Heap) (locs : List Loc) (ls : Array Slot), dm_waiting_4 n u x1 x2 = some (r0, u0) → ts_W mF D ca ad A s H locs u → lv_has ls 3 [(0, .ref (ad 0)), (1, .int x1), (2, .int x2)] → W p l e rM_waiting s m args below meth c H locs 0 0 (MQ below (va_Qi (fun r v => r = r0 ∧ v = u0) (ts_post mF D ca ad A) A) args s 0 0 A) (F0 m 4 ls []) := by
    intro n
    induction n with
    | zero => intro u x1 x2 H locs ls hd; cases (show (none : Option (Int32 × ts_S)) = some (r0, u0) from hd)
    | succ n4 ih4 =>
      intro u x1 x2 H locs ls hd hw hl
      replace hd : dm_waiting_4_b (dm_waiting_4 n4) u x1 x2 = some (r0, u0) := hd
      unfold dm_waiting_4_b at hd
      refine lv_iload_n hx hb dM_waiting_4 rfl (lv_at hl 2 rfl) ?_
      refine lv_bipush (v := 16) hx hb dM_waiting_5 (by decide) ?_
      refine lv_icmp_ge (tgt := 28) hx hb dM_waiting_7 (by decide) (fun cq => ?_) (fun cq => ?_)
      · replace hd := ts_if_p cq hd
        refine lv_iload_n hx hb dM_waiting_28 rfl (lv_at hl 1 rfl) ?_
        exact ts_iret hx hb hr hlk (vp_nar_int _) hw hd dM_waiting_29
      · replace hd := ts_if_n cq hd
        refine lv_aload_n hx hb dM_waiting_10 rfl (lv_at hl 0 rfl) ?_
        refine gM_28 hc hn hw dM_waiting_11 ?_
        refine lv_iload_n hx hb dM_waiting_14 rfl (lv_at hl 2 rfl) ?_
        obtain ⟨h, hd⟩ := ts_ix_s hd
        refine mm_l7 hc hw h dM_waiting_15 ?_
        refine lv_if_eq (tgt := 22) hx hb dM_waiting_16 (by decide) (fun cq => ?_) (fun cq => ?_)
        · replace hd := ts_if_p cq hd
          refine lv_iinc (v := (x2 + 1)) (lv' := [(2, .int (x2 + 1)), (0, .ref (ad 0)), (1, .int x1)]) hx hb dM_waiting_22 hl (k := 2) rfl rfl (by decide) rfl (fun ls hl => ?_)
          refine lv_goto (tgt := 4) hx hb dM_waiting_25 (by decide) ?_
          exact ih4 u x1 (x2 + 1) _ _ _ hd hw (lv_sub hl [1, 2, 0] rfl)
        · replace hd := ts_if_n cq hd
          refine lv_iinc (v := (x1 + 1)) (lv' := [(1, .int (x1 + 1)), (0, .ref (ad 0)), (2, .int x2)]) hx hb dM_waiting_19 hl (k := 1) rfl rfl (by decide) rfl (fun ls hl => ?_)
          refine lv_iinc (v := (x2 + 1)) (lv' := [(2, .int (x2 + 1)), (1, .int (x1 + 1)), (0, .ref (ad 0))]) hx hb dM_waiting_22 hl (k := 2) rfl rfl (by decide) rfl (fun ls hl => ?_)
          refine lv_goto (tgt := 4) hx hb dM_waiting_25 (by decide) ?_
          exact ih4 u (x1 + 1) (x2 + 1) _ _ _ hd hw (lv_sub hl [2, 1, 0] rfl)
  unfold dm_waiting at hd
  refine lv_iconst (v := 0) hx hb dM_waiting_0 (by decide) ?_
  refine lv_istore_n (lv' := [(1, .int 0), (0, .ref (ad 0))]) hx hb dM_waiting_1 rfl hl (by decide) rfl (fun ls hl => ?_)
  refine lv_iconst (v := 0) hx hb dM_waiting_2 (by decide) ?_
  refine lv_istore_n (lv' := [(2, .int 0), (1, .int 0), (0, .ref (ad 0))]) hx hb dM_waiting_3 rfl hl (by decide) rfl (fun ls hl => ?_)
  exact L4 40 u 0 0 _ _ _ hd hw (lv_sub hl [2, 1, 0] rfl)
section
variable {p : Program} {l : Launch} {e : Env} {R : Room} {s : State} {m : MethodId} {args : Array Value} {below : List Frame} {meth : Method} {c : Code} {H : Heap} {locs : List Loc} {Q : State → Prop} {cc : ByteArray} {pc nL : Nat} {ls : Array Slot} {rest : List Value} {D : va_G} {ca : Nat → ClassId} {ad : Nat → Nat} {A : Nat → Prop} {u : ts_S} {cells slots : Nat}
theorem cM_99 (hc : CallFix p m c cc nL s args uW RM) (hn : nx s) (hw : ts_W mF D ca ad A s H locs u) {r0 : Int32} {u0 : ts_S} (hq : dm_waiting u = some (r0, u0)) (hsz : ls.size = nL) (hR : rM_waiting.frames + 1 ≤ R.frames ∧ 8 + (3 + 11) + rM_waiting.locals ≤ R.locals) (hrest : (rest.map fun v => v.category).sum ≤ 8) (hdg : decode cc pc = .ok (.invokevirtual 99, 3)) (kk : ∀ (H1 : Heap) (locs1 : List Loc), ts_W mF D ca ad A s H1 locs1 u0 → W p l e R s m args below meth c H1 locs1 0 0 Q (F0 m (pc + 3) ls (.int r0 :: rest))) : W p l e R s m args below meth c H locs 0 0 Q (F0 m pc ls (.ref (ad 0) :: rest)) :=
  ts_callVi (b := ad 0) (As := []) hc hn hw (cm_waiting l hq) rfl (cwV 0 hc.2.2.2.2 (gd_V (by decide +kernel) (by decide +kernel) (by decide +kernel) (by decide +kernel) (code_M_waiting)) rfl rfl rfl (by decide +kernel) hR) (va_recv hw.2.2.2.1 hw.1 (ci := 2) (q0 := 0) rfl rfl) rfl hsz hrest hdg kk
end
def rM_ask : Room := { frames := 2, cells := 0, slots := 0, locals := 42 }
set_option maxHeartbeats 4000000 in
set_option maxRecDepth 100000 in
theorem cm_ask (l : Launch) {u : ts_S} {x1 : Int32} {r0 : Int32} {u0 : ts_S} (hd : dm_ask u x1 = some (r0, u0)) : ts_Ci mF l yM_ask (.code yM_ask bM_ask 2 (some .int) :: uW) rM_ask (fun ad => [.ref (ad 0), .int x1]) u r0 u0 := by
  refine ts_in_i mF l (by decide) (fun p e s m args below meth c D ca ad A hc hn hr hlk hw => ?_)
  have hx := hc.1
  have hb := hc.2.1
  have hl := lv_entry ([.ref (ad 0), .int x1]) (n := 2) (Nat.le_of_ble_eq_true rfl)
  rw [lg_entry_eq]
  generalize (lg_sl ([.ref (ad 0), .int x1]) ++ List.replicate (2 - (lg_sl ([.ref (ad 0), .int x1])).length) Slot.unset).toArray = ls at hl ⊢
  replace hl : lv_has ls 2 [(0, .ref (ad 0)), (1, .int x1)] := hl
  unfold dm_ask at hd
  refine lv_aload_n hx hb dM_ask_0 rfl (lv_at hl 0 rfl) ?_
  refine lv_iload_n hx hb dM_ask_1 rfl (lv_at hl 1 rfl) ?_
  obtain ⟨r2, u2, hq, hd⟩ := ts_b_s hd
  refine cM_84 hc hn hw hq hl.1 ⟨Nat.le_of_ble_eq_true rfl, Nat.le_of_ble_eq_true rfl⟩ (Nat.le_of_ble_eq_true rfl) dM_ask_2 (fun H locs hw => ?_)
  refine lv_if_eq (tgt := 27) hx hb dM_ask_5 (by decide) (fun cq => ?_) (fun cq => ?_)
  · replace hd := ts_if_p cq hd
    refine lv_iconst (v := (-1)) hx hb dM_ask_27 (by decide) ?_
    exact ts_iret hx hb hr hlk (vp_nar_int _) hw hd dM_ask_28
  · replace hd := ts_if_n cq hd
    refine lv_aload_n hx hb dM_ask_8 rfl (lv_at hl 0 rfl) ?_
    refine gM_7 hc hn hw dM_ask_9 ?_
    refine lv_iload_n hx hb dM_ask_12 rfl (lv_at hl 1 rfl) ?_
    obtain ⟨h, hd⟩ := ts_ix_s hd
    refine mm_l2 hc hw h dM_ask_13 ?_
    refine lv_iconst (v := 3) hx hb dM_ask_14 (by decide) ?_
    refine lv_icmp_ne (tgt := 27) hx hb dM_ask_15 (by decide) (fun cq => ?_) (fun cq => ?_)
    · replace hd := ts_if_n cq hd
      refine lv_iconst (v := (-1)) hx hb dM_ask_27 (by decide) ?_
      exact ts_iret hx hb hr hlk (vp_nar_int _) hw hd dM_ask_28
    · replace hd := ts_if_p cq hd
      refine lv_aload_n hx hb dM_ask_18 rfl (lv_at hl 0 rfl) ?_
      refine gM_28 hc hn hw dM_ask_19 ?_
      refine lv_iload_n hx hb dM_ask_22 rfl (lv_at hl 1 rfl) ?_
      obtain ⟨h, hd⟩ := ts_ix_s hd
      refine mm_l7 hc hw h dM_ask_23 ?_
      refine lv_if_eq (tgt := 29) hx hb dM_ask_24 (by decide) (fun cq => ?_) (fun cq => ?_)
      · replace hd := ts_if_p cq hd
        refine lv_aload_n hx hb dM_ask_29 rfl (lv_at hl 0 rfl) ?_
        obtain ⟨r30, u30, hq, hd⟩ := ts_b_s hd
        refine cM_99 hc hn hw hq hl.1 ⟨Nat.le_of_ble_eq_true rfl, Nat.le_of_ble_eq_true rfl⟩ (Nat.le_of_ble_eq_true rfl) dM_ask_30 (fun H locs hw => ?_)
        refine lv_bipush (v := 6) hx hb dM_ask_33 (by decide) ?_
        refine lv_icmp_ne (tgt := 41) hx hb dM_ask_35 (by decide) (fun cq => ?_) (fun cq => ?_)
        · replace hd := ts_if_n cq hd
          refine lv_aload_n hx hb dM_ask_41 rfl (lv_at hl 0 rfl) ?_
          refine gM_28 hc hn hw dM_ask_42 ?_
          refine lv_iload_n hx hb dM_ask_45 rfl (lv_at hl 1 rfl) ?_
          refine lv_iconst (v := 1) hx hb dM_ask_46 (by decide) ?_
          obtain ⟨h, hd⟩ := ts_ix_s hd
          refine mm_s7 hc hw h (by decide +kernel) dM_ask_47 (fun H locs hw => ?_)
          refine lv_iconst (v := 0) hx hb dM_ask_48 (by decide) ?_
          exact ts_iret hx hb hr hlk (vp_nar_int _) hw hd dM_ask_49
        · replace hd := ts_if_p cq hd
          refine lv_bipush (v := (-2)) hx hb dM_ask_38 (by decide) ?_
          exact ts_iret hx hb hr hlk (vp_nar_int _) hw hd dM_ask_40
      · replace hd := ts_if_n cq hd
        refine lv_iconst (v := (-1)) hx hb dM_ask_27 (by decide) ?_
        exact ts_iret hx hb hr hlk (vp_nar_int _) hw hd dM_ask_28
def rM_rank : Room := { frames := 0, cells := 0, slots := 0, locals := 0 }
set_option maxHeartbeats 4000000 in
set_option maxRecDepth 100000 in
theorem cm_rank (l : Launch) {u : ts_S} {x1 : Int32} {r0 : Int32} {u0 : ts_S} (hd : dm_rank u x1 = some (r0, u0)) : ts_Ci mF l yM_rank (.code yM_rank bM_rank 2 (some .int) :: uW) rM_rank (fun ad => [.ref (ad 0), .int x1]) u r0 u0 := by
  refine ts_in_i mF l (by decide) (fun p e s m args below meth c D ca ad A hc hn hr hlk hw => ?_)
  have hx := hc.1
  have hb := hc.2.1
  have hl := lv_entry ([.ref (ad 0), .int x1]) (n := 2) (Nat.le_of_ble_eq_true rfl)
  rw [lg_entry_eq]
  generalize (lg_sl ([.ref (ad 0), .int x1]) ++ List.replicate (2 - (lg_sl ([.ref (ad 0), .int x1])).length) Slot.unset).toArray = ls at hl ⊢
  replace hl : lv_has ls 2 [(0, .ref (ad 0)), (1, .int x1)] := hl
  unfold dm_rank at hd
  refine lv_aload_n hx hb dM_rank_0 rfl (lv_at hl 0 rfl) ?_
  refine gM_22 hc hn hw dM_rank_1 ?_
  refine lv_iload_n hx hb dM_rank_4 rfl (lv_at hl 1 rfl) ?_
  obtain ⟨h, hd⟩ := ts_ix_s hd
  refine mm_l5 hc hw h dM_rank_5 ?_
  refine lv_aload_n hx hb dM_rank_6 rfl (lv_at hl 0 rfl) ?_
  refine gM_41 hc hn hw dM_rank_7 ?_
  refine lv_icmp_ne (tgt := 17) hx hb dM_rank_10 (by decide) (fun cq => ?_) (fun cq => ?_)
  · replace hd := ts_if_n cq hd
    refine lv_bipush (v := 100) hx hb dM_rank_17 (by decide) ?_
    refine lv_bipush (v := 100) hx hb dM_rank_19 (by decide) ?_
    refine lv_aload_n hx hb dM_rank_21 rfl (lv_at hl 0 rfl) ?_
    refine gM_22 hc hn hw dM_rank_22 ?_
    refine lv_iload_n hx hb dM_rank_25 rfl (lv_at hl 1 rfl) ?_
    obtain ⟨h, hd⟩ := ts_ix_s hd
    refine mm_l5 hc hw h dM_rank_26 ?_
    refine lv_imul hx hb dM_rank_27 ?_
    refine lv_iadd hx hb dM_rank_28 ?_
    refine lv_aload_n hx hb dM_rank_29 rfl (lv_at hl 0 rfl) ?_
    refine gM_25 hc hn hw dM_rank_30 ?_
    refine lv_iload_n hx hb dM_rank_33 rfl (lv_at hl 1 rfl) ?_
    obtain ⟨h, hd⟩ := ts_ix_s hd
    refine mm_l6 hc hw h dM_rank_34 ?_
    refine lv_iadd hx hb dM_rank_35 ?_
    exact ts_iret hx hb hr hlk (vp_nar_int _) hw hd dM_rank_36
  · replace hd := ts_if_p cq hd
    refine lv_iconst (v := 0) hx hb dM_rank_13 (by decide) ?_
    refine lv_goto (tgt := 29) hx hb dM_rank_14 (by decide) ?_
    refine lv_aload_n hx hb dM_rank_29 rfl (lv_at hl 0 rfl) ?_
    refine gM_25 hc hn hw dM_rank_30 ?_
    refine lv_iload_n hx hb dM_rank_33 rfl (lv_at hl 1 rfl) ?_
    obtain ⟨h, hd⟩ := ts_ix_s hd
    refine mm_l6 hc hw h dM_rank_34 ?_
    refine lv_iadd hx hb dM_rank_35 ?_
    exact ts_iret hx hb hr hlk (vp_nar_int _) hw hd dM_rank_36
section
variable {p : Program} {l : Launch} {e : Env} {R : Room} {s : State} {m : MethodId} {args : Array Value} {below : List Frame} {meth : Method} {c : Code} {H : Heap} {locs : List Loc} {Q : State → Prop} {cc : ByteArray} {pc nL : Nat} {ls : Array Slot} {rest : List Value} {D : va_G} {ca : Nat → ClassId} {ad : Nat → Nat} {A : Nat → Prop} {u : ts_S} {cells slots : Nat}
theorem cM_102 (hc : CallFix p m c cc nL s args uW RM) (hn : nx s) (hw : ts_W mF D ca ad A s H locs u) {x1 : Int32} {r0 : Int32} {u0 : ts_S} (hq : dm_rank u x1 = some (r0, u0)) (hsz : ls.size = nL) (hR : rM_rank.frames + 1 ≤ R.frames ∧ 8 + (2 + 11) + rM_rank.locals ≤ R.locals) (hrest : (rest.map fun v => v.category).sum ≤ 8) (hdg : decode cc pc = .ok (.invokevirtual 102, 3)) (kk : ∀ (H1 : Heap) (locs1 : List Loc), ts_W mF D ca ad A s H1 locs1 u0 → W p l e R s m args below meth c H1 locs1 0 0 Q (F0 m (pc + 3) ls (.int r0 :: rest))) : W p l e R s m args below meth c H locs 0 0 Q (F0 m pc ls (.int x1 :: .ref (ad 0) :: rest)) :=
  ts_callVi (b := ad 0) (As := [.int x1]) hc hn hw (cm_rank l hq) rfl (cwV 1 hc.2.2.2.2 (gd_V (by decide +kernel) (by decide +kernel) (by decide +kernel) (by decide +kernel) (code_M_rank)) rfl rfl rfl (by decide +kernel) hR) (va_recv hw.2.2.2.1 hw.1 (ci := 2) (q0 := 0) rfl rfl) rfl hsz hrest hdg kk
end
def rM_serve : Room := { frames := 3, cells := 0, slots := 0, locals := 67 }
set_option maxHeartbeats 4000000 in
set_option maxRecDepth 100000 in
theorem cm_serve (l : Launch) {u : ts_S} {r0 : Int32} {u0 : ts_S} (hd : dm_serve u = some (r0, u0)) : ts_Ci mF l yM_serve (.code yM_serve bM_serve 5 (some .int) :: uW) rM_serve (fun ad => [.ref (ad 0)]) u r0 u0 := by
  refine ts_in_i mF l (by decide) (fun p e s m args below meth c D ca ad A hc hn hr hlk hw => ?_)
  have hx := hc.1
  have hb := hc.2.1
  have hl := lv_entry ([.ref (ad 0)]) (n := 5) (Nat.le_of_ble_eq_true rfl)
  rw [lg_entry_eq]
  generalize (lg_sl ([.ref (ad 0)]) ++ List.replicate (5 - (lg_sl ([.ref (ad 0)])).length) Slot.unset).toArray = ls at hl ⊢
  replace hl : lv_has ls 5 [(0, .ref (ad 0))] := hl
  have L141 : ∀ (n : Nat) (u : ts_S) (x1 x2 x3 : Int32) (H : Heap) (locs : List Loc) (ls : Array Slot), dm_serve_141 n u x1 x2 x3 = some (r0, u0) → ts_W mF D ca ad A s H locs u → lv_has ls 5 [(0, .ref (ad 0)), (1, .int x1), (2, .int x2), (3, .int x3)] → W p l e rM_serve s m args below meth c H locs 0 0 (MQ below (va_Qi (fun r v => r = r0 ∧ v = u0) (ts_post mF D ca ad A) A) args s 0 0 A) (F0 m 141 ls []) := by
    intro n
    induction n with
    | zero => intro u x1 x2 x3 H locs ls hd; cases (show (none : Option (Int32 × ts_S)) = some (r0, u0) from hd)
    | succ n141 ih141 =>
      intro u x1 x2 x3 H locs ls hd hw hl
      replace hd : dm_serve_141_b (dm_serve_141 n141) u x1 x2 x3 = some (r0, u0) := hd
      unfold dm_serve_141_b at hd
      refine lv_iload_n hx hb dM_serve_141 rfl (lv_at hl 3 rfl) ?_
      refine lv_iload_n hx hb dM_serve_142 rfl (lv_at hl 1 rfl) ?_
      refine lv_icmp_ge (tgt := 168) hx hb dM_serve_143 (by decide) (fun cq => ?_) (fun cq => ?_)
      · replace hd := ts_if_p cq hd
        refine lv_iload_n hx hb dM_serve_168 rfl (lv_at hl 2 rfl) ?_
        exact ts_iret hx hb hr hlk (vp_nar_int _) hw hd dM_serve_169
      · replace hd := ts_if_n cq hd
        refine lv_aload_n hx hb dM_serve_146 rfl (lv_at hl 0 rfl) ?_
        refine lv_aload_n hx hb dM_serve_147 rfl (lv_at hl 0 rfl) ?_
        refine gM_38 hc hn hw dM_serve_148 ?_
        refine lv_iload_n hx hb dM_serve_151 rfl (lv_at hl 3 rfl) ?_
        obtain ⟨h, hd⟩ := ts_ix_s hd
        refine mm_l9 hc hw h dM_serve_152 ?_
        obtain ⟨r153, u153, hq, hd⟩ := ts_b_s hd
        refine cM_87 hc hn hw hq hl.1 ⟨Nat.le_of_ble_eq_true rfl, Nat.le_of_ble_eq_true rfl⟩ (Nat.le_of_ble_eq_true rfl) dM_serve_153 (fun H locs hw => ?_)
        refine lv_if_eq (tgt := 162) hx hb dM_serve_156 (by decide) (fun cq => ?_) (fun cq => ?_)
        · replace hd := ts_if_p cq hd
          refine lv_iinc (v := (x3 + 1)) (lv' := [(3, .int (x3 + 1)), (0, .ref (ad 0)), (1, .int x1), (2, .int x2)]) hx hb dM_serve_162 hl (k := 3) rfl rfl (by decide) rfl (fun ls hl => ?_)
          refine lv_goto (tgt := 141) hx hb dM_serve_165 (by decide) ?_
          exact ih141 u153 x1 x2 (x3 + 1) _ _ _ hd hw (lv_sub hl [1, 2, 3, 0] rfl)
        · replace hd := ts_if_n cq hd
          refine lv_iinc (v := (x2 + 1)) (lv' := [(2, .int (x2 + 1)), (0, .ref (ad 0)), (1, .int x1), (3, .int x3)]) hx hb dM_serve_159 hl (k := 2) rfl rfl (by decide) rfl (fun ls hl => ?_)
          refine lv_iinc (v := (x3 + 1)) (lv' := [(3, .int (x3 + 1)), (2, .int (x2 + 1)), (0, .ref (ad 0)), (1, .int x1)]) hx hb dM_serve_162 hl (k := 3) rfl rfl (by decide) rfl (fun ls hl => ?_)
          refine lv_goto (tgt := 141) hx hb dM_serve_165 (by decide) ?_
          exact ih141 u153 x1 (x2 + 1) (x3 + 1) _ _ _ hd hw (lv_sub hl [2, 3, 1, 0] rfl)
  have L54 : ∀ (n : Nat) (u : ts_S) (x1 x2 : Int32) (H : Heap) (locs : List Loc) (ls : Array Slot), dm_serve_54 n u x1 x2 = some (r0, u0) → ts_W mF D ca ad A s H locs u → lv_has ls 5 [(0, .ref (ad 0)), (1, .int x1), (2, .int x2)] → W p l e rM_serve s m args below meth c H locs 0 0 (MQ below (va_Qi (fun r v => r = r0 ∧ v = u0) (ts_post mF D ca ad A) A) args s 0 0 A) (F0 m 54 ls []) := by
    intro n
    induction n with
    | zero => intro u x1 x2 H locs ls hd; cases (show (none : Option (Int32 × ts_S)) = some (r0, u0) from hd)
    | succ n54 ih54 =>
      intro u x1 x2 H locs ls hd hw hl
      replace hd : dm_serve_54_b (dm_serve_54 n54) u x1 x2 = some (r0, u0) := hd
      unfold dm_serve_54_b at hd
      have L63 : ∀ (n : Nat) (u : ts_S) (x1 x2 x3 : Int32) (H : Heap) (locs : List Loc) (ls : Array Slot), dm_serve_63 (dm_serve_54 n54) n u x1 x2 x3 = some (r0, u0) → ts_W mF D ca ad A s H locs u → lv_has ls 5 [(0, .ref (ad 0)), (1, .int x1), (2, .int x2), (3, .int x3)] → W p l e rM_serve s m args below meth c H locs 0 0 (MQ below (va_Qi (fun r v => r = r0 ∧ v = u0) (ts_post mF D ca ad A) A) args s 0 0 A) (F0 m 63 ls []) := by
        intro n
        induction n with
        | zero => intro u x1 x2 x3 H locs ls hd; cases (show (none : Option (Int32 × ts_S)) = some (r0, u0) from hd)
        | succ n63 ih63 =>
          intro u x1 x2 x3 H locs ls hd hw hl
          replace hd : dm_serve_63_b (dm_serve_54 n54) (dm_serve_63 (dm_serve_54 n54) n63) u x1 x2 x3 = some (r0, u0) := hd
          unfold dm_serve_63_b at hd
          refine lv_iload_n hx hb dM_serve_63 rfl (lv_at hl 3 rfl) ?_
          refine lv_iload_n hx hb dM_serve_64 rfl (lv_at hl 2 rfl) ?_
          refine lv_icmp_le (tgt := 131) hx hb dM_serve_65 (by decide) (fun cq => ?_) (fun cq => ?_)
          · replace hd := ts_if_p cq hd
            refine lv_iinc (v := (x2 + 1)) (lv' := [(2, .int (x2 + 1)), (0, .ref (ad 0)), (1, .int x1), (3, .int x3)]) hx hb dM_serve_131 hl (k := 2) rfl rfl (by decide) rfl (fun ls hl => ?_)
            refine lv_goto (tgt := 54) hx hb dM_serve_134 (by decide) ?_
            exact ih54 u x1 (x2 + 1) _ _ _ hd hw (lv_sub hl [1, 2, 0] rfl)
          · replace hd := ts_if_n cq hd
            refine lv_aload_n hx hb dM_serve_68 rfl (lv_at hl 0 rfl) ?_
            refine lv_aload_n hx hb dM_serve_69 rfl (lv_at hl 0 rfl) ?_
            refine gM_38 hc hn hw dM_serve_70 ?_
            refine lv_iload_n hx hb dM_serve_73 rfl (lv_at hl 3 rfl) ?_
            obtain ⟨h, hd⟩ := ts_ix_s hd
            refine mm_l9 hc hw h dM_serve_74 ?_
            obtain ⟨r75, u75, hq, hd⟩ := ts_b_s hd
            refine cM_102 hc hn hw hq hl.1 ⟨Nat.le_of_ble_eq_true rfl, Nat.le_of_ble_eq_true rfl⟩ (Nat.le_of_ble_eq_true rfl) dM_serve_75 (fun H locs hw => ?_)
            refine lv_aload_n hx hb dM_serve_78 rfl (lv_at hl 0 rfl) ?_
            refine lv_aload_n hx hb dM_serve_79 rfl (lv_at hl 0 rfl) ?_
            refine gM_38 hc hn hw dM_serve_80 ?_
            refine lv_iload_n hx hb dM_serve_83 rfl (lv_at hl 3 rfl) ?_
            refine lv_iconst (v := 1) hx hb dM_serve_84 (by decide) ?_
            refine lv_isub hx hb dM_serve_85 ?_
            obtain ⟨h, hd⟩ := ts_ix_s hd
            refine mm_l9 hc hw h dM_serve_86 ?_
            obtain ⟨r87, u87, hq, hd⟩ := ts_b_s hd
            refine cM_102 hc hn hw hq hl.1 ⟨Nat.le_of_ble_eq_true rfl, Nat.le_of_ble_eq_true rfl⟩ (Nat.le_of_ble_eq_true rfl) dM_serve_87 (fun H locs hw => ?_)
            refine lv_icmp_ge (tgt := 125) hx hb dM_serve_90 (by decide) (fun cq => ?_) (fun cq => ?_)
            · replace hd := ts_if_p cq hd
              refine lv_iinc (v := (x3 + (-1))) (lv' := [(3, .int (x3 + (-1))), (0, .ref (ad 0)), (1, .int x1), (2, .int x2)]) hx hb dM_serve_125 hl (k := 3) rfl rfl (by decide) rfl (fun ls hl => ?_)
              refine lv_goto (tgt := 63) hx hb dM_serve_128 (by decide) ?_
              exact ih63 u87 x1 x2 (x3 + (-1)) _ _ _ hd hw (lv_sub hl [1, 2, 3, 0] rfl)
            · replace hd := ts_if_n cq hd
              refine lv_aload_n hx hb dM_serve_93 rfl (lv_at hl 0 rfl) ?_
              refine gM_38 hc hn hw dM_serve_94 ?_
              refine lv_iload_n hx hb dM_serve_97 rfl (lv_at hl 3 rfl) ?_
              obtain ⟨h, hd⟩ := ts_ix_s hd
              refine mm_l9 hc hw h dM_serve_98 ?_
              refine lv_istore (lv' := [(4, .int (u87.2 9 x3.toNatClampNeg)), (0, .ref (ad 0)), (1, .int x1), (2, .int x2), (3, .int x3)]) hx hb dM_serve_99 hl (by decide) rfl (fun ls hl => ?_)
              refine lv_aload_n hx hb dM_serve_101 rfl (lv_at hl 1 rfl) ?_
              refine gM_38 hc hn hw dM_serve_102 ?_
              refine lv_iload_n hx hb dM_serve_105 rfl (lv_at hl 4 rfl) ?_
              refine lv_aload_n hx hb dM_serve_106 rfl (lv_at hl 1 rfl) ?_
              refine gM_38 hc hn hw dM_serve_107 ?_
              refine lv_iload_n hx hb dM_serve_110 rfl (lv_at hl 4 rfl) ?_
              refine lv_iconst (v := 1) hx hb dM_serve_111 (by decide) ?_
              refine lv_isub hx hb dM_serve_112 ?_
              obtain ⟨h, hd⟩ := ts_ix_s hd
              refine mm_l9 hc hw h dM_serve_113 ?_
              obtain ⟨h, hd⟩ := ts_ix_s hd
              refine mm_s9 hc hw h dM_serve_114 (fun H locs hw => ?_)
              refine lv_aload_n hx hb dM_serve_115 rfl (lv_at hl 1 rfl) ?_
              refine gM_38 hc hn hw dM_serve_116 ?_
              refine lv_iload_n hx hb dM_serve_119 rfl (lv_at hl 4 rfl) ?_
              refine lv_iconst (v := 1) hx hb dM_serve_120 (by decide) ?_
              refine lv_isub hx hb dM_serve_121 ?_
              refine lv_iload hx hb dM_serve_122 (lv_at hl 0 rfl) ?_
              obtain ⟨h, hd⟩ := ts_ix_s hd
              refine mm_s9 hc hw h dM_serve_124 (fun H locs hw => ?_)
              refine lv_iinc (v := (x3 + (-1))) (lv' := [(3, .int (x3 + (-1))), (4, .int (u87.2 9 x3.toNatClampNeg)), (0, .ref (ad 0)), (1, .int x1), (2, .int x2)]) hx hb dM_serve_125 hl (k := 4) rfl rfl (by decide) rfl (fun ls hl => ?_)
              refine lv_goto (tgt := 63) hx hb dM_serve_128 (by decide) ?_
              exact ih63 (ts_a 9 (x3 - 1).toNatClampNeg (u87.2 9 x3.toNatClampNeg) (ts_a 9 x3.toNatClampNeg (u87.2 9 (x3 - 1).toNatClampNeg) u87)) x1 x2 (x3 + (-1)) _ _ _ hd hw (lv_sub hl [2, 3, 4, 0] rfl)
      refine lv_iload_n hx hb dM_serve_54 rfl (lv_at hl 2 rfl) ?_
      refine lv_iload_n hx hb dM_serve_55 rfl (lv_at hl 1 rfl) ?_
      refine lv_icmp_ge (tgt := 137) hx hb dM_serve_56 (by decide) (fun cq => ?_) (fun cq => ?_)
      · replace hd := ts_if_p cq hd
        refine lv_iconst (v := 0) hx hb dM_serve_137 (by decide) ?_
        refine lv_istore_n (lv' := [(2, .int 0), (0, .ref (ad 0)), (1, .int x1)]) hx hb dM_serve_138 rfl hl (by decide) rfl (fun ls hl => ?_)
        refine lv_iconst (v := 0) hx hb dM_serve_139 (by decide) ?_
        refine lv_istore_n (lv' := [(3, .int 0), (2, .int 0), (0, .ref (ad 0)), (1, .int x1)]) hx hb dM_serve_140 rfl hl (by decide) rfl (fun ls hl => ?_)
        exact L141 40 u x1 0 0 _ _ _ hd hw (lv_sub hl [2, 3, 1, 0] rfl)
      · replace hd := ts_if_n cq hd
        refine lv_iload_n hx hb dM_serve_59 rfl (lv_at hl 1 rfl) ?_
        refine lv_iconst (v := 1) hx hb dM_serve_60 (by decide) ?_
        refine lv_isub hx hb dM_serve_61 ?_
        refine lv_istore_n (lv' := [(3, .int (x1 - 1)), (0, .ref (ad 0)), (1, .int x1), (2, .int x2)]) hx hb dM_serve_62 rfl hl (by decide) rfl (fun ls hl => ?_)
        exact L63 40 u x1 x2 (x1 - 1) _ _ _ hd hw (lv_sub hl [1, 2, 3, 0] rfl)
  have L4 : ∀ (n : Nat) (u : ts_S) (x1 x2 : Int32) (H : Heap) (locs : List Loc) (ls : Array Slot), dm_serve_4 n u x1 x2 = some (r0, u0) → ts_W mF D ca ad A s H locs u → lv_has ls 5 [(0, .ref (ad 0)), (1, .int x1), (2, .int x2)] → W p l e rM_serve s m args below meth c H locs 0 0 (MQ below (va_Qi (fun r v => r = r0 ∧ v = u0) (ts_post mF D ca ad A) A) args s 0 0 A) (F0 m 4 ls []) := by
    intro n
    induction n with
    | zero => intro u x1 x2 H locs ls hd; cases (show (none : Option (Int32 × ts_S)) = some (r0, u0) from hd)
    | succ n4 ih4 =>
      intro u x1 x2 H locs ls hd hw hl
      replace hd : dm_serve_4_b (dm_serve_4 n4) u x1 x2 = some (r0, u0) := hd
      unfold dm_serve_4_b at hd
      refine lv_iload_n hx hb dM_serve_4 rfl (lv_at hl 2 rfl) ?_
      refine lv_bipush (v := 16) hx hb dM_serve_5 (by decide) ?_
      refine lv_icmp_ge (tgt := 52) hx hb dM_serve_7 (by decide) (fun cq => ?_) (fun cq => ?_)
      · replace hd := ts_if_p cq hd
        refine lv_iconst (v := 0) hx hb dM_serve_52 (by decide) ?_
        refine lv_istore_n (lv' := [(2, .int 0), (0, .ref (ad 0)), (1, .int x1)]) hx hb dM_serve_53 rfl hl (by decide) rfl (fun ls hl => ?_)
        exact L54 40 u x1 0 _ _ _ hd hw (lv_sub hl [1, 2, 0] rfl)
      · replace hd := ts_if_n cq hd
        refine lv_aload_n hx hb dM_serve_10 rfl (lv_at hl 0 rfl) ?_
        refine gM_28 hc hn hw dM_serve_11 ?_
        refine lv_iload_n hx hb dM_serve_14 rfl (lv_at hl 2 rfl) ?_
        obtain ⟨h, hd⟩ := ts_ix_s hd
        refine mm_l7 hc hw h dM_serve_15 ?_
        refine lv_if_eq (tgt := 39) hx hb dM_serve_16 (by decide) (fun cq => ?_) (fun cq => ?_)
        · replace hd := ts_if_p cq hd
          refine lv_aload_n hx hb dM_serve_39 rfl (lv_at hl 0 rfl) ?_
          refine gM_28 hc hn hw dM_serve_40 ?_
          refine lv_iload_n hx hb dM_serve_43 rfl (lv_at hl 2 rfl) ?_
          refine lv_iconst (v := 0) hx hb dM_serve_44 (by decide) ?_
          obtain ⟨h, hd⟩ := ts_ix_s hd
          refine mm_s7 hc hw h (by decide +kernel) dM_serve_45 (fun H locs hw => ?_)
          refine lv_iinc (v := (x2 + 1)) (lv' := [(2, .int (x2 + 1)), (0, .ref (ad 0)), (1, .int x1)]) hx hb dM_serve_46 hl (k := 2) rfl rfl (by decide) rfl (fun ls hl => ?_)
          refine lv_goto (tgt := 4) hx hb dM_serve_49 (by decide) ?_
          exact ih4 (ts_a 7 x2.toNatClampNeg 0 u) x1 (x2 + 1) _ _ _ hd hw (lv_sub hl [1, 2, 0] rfl)
        · replace hd := ts_if_n cq hd
          refine lv_aload_n hx hb dM_serve_19 rfl (lv_at hl 0 rfl) ?_
          refine gM_7 hc hn hw dM_serve_20 ?_
          refine lv_iload_n hx hb dM_serve_23 rfl (lv_at hl 2 rfl) ?_
          obtain ⟨h, hd⟩ := ts_ix_s hd
          refine mm_l2 hc hw h dM_serve_24 ?_
          refine lv_iconst (v := 3) hx hb dM_serve_25 (by decide) ?_
          refine lv_icmp_ne (tgt := 39) hx hb dM_serve_26 (by decide) (fun cq => ?_) (fun cq => ?_)
          · replace hd := ts_if_n cq hd
            refine lv_aload_n hx hb dM_serve_39 rfl (lv_at hl 0 rfl) ?_
            refine gM_28 hc hn hw dM_serve_40 ?_
            refine lv_iload_n hx hb dM_serve_43 rfl (lv_at hl 2 rfl) ?_
            refine lv_iconst (v := 0) hx hb dM_serve_44 (by decide) ?_
            obtain ⟨h, hd⟩ := ts_ix_s hd
            refine mm_s7 hc hw h (by decide +kernel) dM_serve_45 (fun H locs hw => ?_)
            refine lv_iinc (v := (x2 + 1)) (lv' := [(2, .int (x2 + 1)), (0, .ref (ad 0)), (1, .int x1)]) hx hb dM_serve_46 hl (k := 2) rfl rfl (by decide) rfl (fun ls hl => ?_)
            refine lv_goto (tgt := 4) hx hb dM_serve_49 (by decide) ?_
            exact ih4 (ts_a 7 x2.toNatClampNeg 0 u) x1 (x2 + 1) _ _ _ hd hw (lv_sub hl [1, 2, 0] rfl)
          · replace hd := ts_if_p cq hd
            refine lv_aload_n hx hb dM_serve_29 rfl (lv_at hl 0 rfl) ?_
            refine gM_38 hc hn hw dM_serve_30 ?_
            refine lv_iload_n hx hb dM_serve_33 rfl (lv_at hl 1 rfl) ?_
            refine lv_iload_n hx hb dM_serve_34 rfl (lv_at hl 2 rfl) ?_
            obtain ⟨h, hd⟩ := ts_ix_s hd
            refine mm_s9 hc hw h dM_serve_35 (fun H locs hw => ?_)
            refine lv_iinc (v := (x1 + 1)) (lv' := [(1, .int (x1 + 1)), (0, .ref (ad 0)), (2, .int x2)]) hx hb dM_serve_36 hl (k := 1) rfl rfl (by decide) rfl (fun ls hl => ?_)
            refine lv_aload_n hx hb dM_serve_39 rfl (lv_at hl 1 rfl) ?_
            refine gM_28 hc hn hw dM_serve_40 ?_
            refine lv_iload_n hx hb dM_serve_43 rfl (lv_at hl 2 rfl) ?_
            refine lv_iconst (v := 0) hx hb dM_serve_44 (by decide) ?_
            obtain ⟨h, hd⟩ := ts_ix_s hd
            refine mm_s7 hc hw h (by decide +kernel) dM_serve_45 (fun H locs hw => ?_)
            refine lv_iinc (v := (x2 + 1)) (lv' := [(2, .int (x2 + 1)), (1, .int (x1 + 1)), (0, .ref (ad 0))]) hx hb dM_serve_46 hl (k := 2) rfl rfl (by decide) rfl (fun ls hl => ?_)
            refine lv_goto (tgt := 4) hx hb dM_serve_49 (by decide) ?_
            exact ih4 (ts_a 7 x2.toNatClampNeg 0 (ts_a 9 x1.toNatClampNeg x2 u)) (x1 + 1) (x2 + 1) _ _ _ hd hw (lv_sub hl [2, 1, 0] rfl)
  unfold dm_serve at hd
  refine lv_iconst (v := 0) hx hb dM_serve_0 (by decide) ?_
  refine lv_istore_n (lv' := [(1, .int 0), (0, .ref (ad 0))]) hx hb dM_serve_1 rfl hl (by decide) rfl (fun ls hl => ?_)
  refine lv_iconst (v := 0) hx hb dM_serve_2 (by decide) ?_
  refine lv_istore_n (lv' := [(2, .int 0), (1, .int 0), (0, .ref (ad 0))]) hx hb dM_serve_3 rfl hl (by decide) rfl (fun ls hl => ?_)
  exact L4 40 u 0 0 _ _ _ hd hw (lv_sub hl [2, 1, 0] rfl)
