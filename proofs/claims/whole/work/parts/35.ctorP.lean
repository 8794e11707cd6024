theorem obj_in : Cond.code Lib.objectInit ⟨#[0xb1]⟩ 1 none ∈ uW := uW_in (List.mem_of_getElem? (i := 56) rfl) rfl
theorem mna_p (X : va_W) (r : Nat → Nat) (f : Nat → va_E) (e : va_E) (n : Nat) : X ++ va_pl ([] ++ (List.range n).map r) (vr_up f ((List.range n).map r) e) = X ++ (List.range n).map (fun i => (r i, e)) := by
  congr 1
  unfold va_pl
  rw [List.nil_append, List.map_map]
  apply List.map_congr_left
  intro i hi
  show (r i, vr_up f ((List.range n).map r) e (r i)) = (r i, e)
  rw [vr_up_in (List.mem_map.mpr ⟨i, hi, rfl⟩)]
theorem mna_l {args : Array Value} {s : State} {own : String} {i : Nat} (h : (Cond.classLink own i "[[I").before args s = true) : (Cond.classLink own i ("[" ++ (FieldType.array .int).toString)).before args s = true := by
  have e : ("[" ++ (FieldType.array .int).toString) = "[[I" := by decide +kernel
  rw [e]
  exact h
theorem mna_c {s : State} {c : ClassId} (h : va_RA s c .int) : s.vm.findClass (FieldType.array .int).toString = some c := by
  have h1 : s.vm.findClass ("[" ++ (FieldType.int).toString) = some c := h
  have e : ("[" ++ (FieldType.int).toString) = (FieldType.array .int).toString := by decide +kernel
  rw [← e]
  exact h1
def wP0 (h : Nat) : va_W := [(h, .inr (0, [.int 0, .null, .null, .int 0, .int 0, .int 0]))]
def wP1 (h : Nat) (x : Int32) (q : Nat × Nat × ClassId × ClassId) : va_W := [(h, .inr (0, [.int x, .ref q.1, .ref q.2.1, .int (-1), .int 0, .int 0])), (q.1, .inl (q.2.2.1, 4, .inl (fun _ => 0))), (q.2.1, .inl (q.2.2.2, 4, .inl (fun _ => 0)))]
def rP_init : Room := { frames := 1, cells := 2, slots := 8, locals := 40 }
set_option maxHeartbeats 4000000 in
set_option maxRecDepth 100000 in
theorem cP_init (l : Launch) (D : va_G) (h0 sz : Nat) (x1 : Int32) : Met l yP_init (.code yP_init bP_init 2 none :: uW) rP_init (va_Pc [.ref h0, .int x1] (fun U => U.heap.size = sz ∧ va_P D vwCl (wP0 h0) U.heap ∧ va_K D vwCl [] U ∧ va_D (fun _ => True) (wP0 h0))) (va_Qv (fun _ : Nat × Nat × ClassId × ClassId => True) (fun q t => va_P D vwCl (wP1 h0 x1 q) t.heap ∧ va_K D vwCl [(q.2.2.1, .int), (q.2.2.2, .int)] t ∧ va_D (va_A (wP0 h0) sz) (wP1 h0 x1 q)) (va_A (wP0 h0) sz)) 2 8 (va_A (wP0 h0) sz) := by
  refine Met.ofW (cc := bP_init) (maxL := 2) (ret := none) (by decide) rfl ?_
  intro p e s m args below meth c s₁ B hml hv
  obtain ⟨rfl, hsz, hP, hK, hD0⟩ := hv
  have hx := B.exec
  have hb := B.bytes
  have hr := B.returns
  have hts0 := atoms_spec (ws := .code yP_init bP_init 2 none :: uW) B.pre
  have hts : ∀ w ∈ uW, w.before _ s = true := fun w h => hts0 w (List.mem_cons_of_mem _ h)
  have hown : s.vm.findClass RP = some m.cls := findClass_of_methodNamed B.named
  have hlocks := B.notSynchronized
  have hin : meth.name = "<init>" := (name_of_methodNamed B.named B.method).1
  subst hsz
  have hD := hD0.self (sz := s.heap.size)
  generalize hAe : va_A (wP0 h0) s.heap.size = A at hD ⊢
  have hA : ∀ q : Nat, s.heap.size ≤ q → A q := fun q h => by rw [← hAe]; exact Or.inr h
  have hS : va_S A s.heap s.heap [] := va_S.rf
  have hl := lv_entry ([.ref h0, .int x1]) (n := 2) (Nat.le_of_ble_eq_true rfl)
  rw [lg_entry_eq]
  generalize (lg_sl ([.ref h0, .int x1]) ++ List.replicate (2 - (lg_sl ([.ref h0, .int x1])).length) Slot.unset).toArray = ls at hl ⊢
  have hP : va_P D vwCl [(h0, .inr (0, [.int 0, .null, .null, .int 0, .int 0, .int 0]))] s.heap := hP
  have hD : va_D A [(h0, .inr (0, [.int 0, .null, .null, .int 0, .int 0, .int 0]))] := hD
  replace hl : lv_has ls 2 [(0, .ref h0), (1, .int x1)] := hl
  refine lv_aload_n hx hb dP_init_0 rfl (lv_at hl 0 rfl) ?_
  refine W.objInit hx hb hown (hts (.methodLink RP 3 Lib.objectInit) (by decide +kernel)) (hts (.instanceMethod Lib.objectInit) (by decide +kernel)) (hts (.code Lib.objectInit ⟨#[0xb1]⟩ 1 none) obj_in) rfl (by rw [hml]; exact hl.1) rfl dP_init_1 (Nat.le_of_ble_eq_true rfl) (Nat.le_of_ble_eq_true rfl) ?_
  refine W.eq (g2 := F0 m 4 ls []) rfl ?_
  refine lv_aload_n hx hb dP_init_4 rfl (lv_at hl 0 rfl) ?_
  refine lv_iconst (v := 4) hx hb dP_init_5 (by decide) ?_
  refine va_newa (atype := .int) (ty := .int) (N' := 4) (a0 := (4, .inl (fun _ => 0))) hx hb (hts (.arrayClass .int) (by decide +kernel)) rfl hK hP hD hS hA (fun _ => rfl) (by decide) (by decide) (by decide) (Nat.le_of_ble_eq_true rfl) (Nat.le_of_ble_eq_true rfl) dP_init_6 (fun q6 c6 H hK hP hD hS => ?_)
  have hP : va_P D vwCl [(h0, .inr (0, [.int 0, .null, .null, .int 0, .int 0, .int 0])), (q6, .inl (c6, 4, .inl (fun _ => 0)))] H := hP
  have hD : va_D A [(h0, .inr (0, [.int 0, .null, .null, .int 0, .int 0, .int 0])), (q6, .inl (c6, 4, .inl (fun _ => 0)))] := hD
  have hK : va_K D vwCl [(c6, .int)] s := hK
  refine W.widen (k := 1) (n := 4) (Nat.le_of_ble_eq_true rfl) (Nat.le_of_ble_eq_true rfl) ?_
  refine va_putF (D := D) (ci := 0) (v := .ref q6) (ty := (.array .int)) (C := RP) (T := FP) (N := 6) hx hb hts inP tP tP_ok nP hown hK hP hD hS 0 rfl rfl 1 (by decide) (hts (.fieldLink RP 9 "TierStore$Tapes" "ends" "[I") (by decide +kernel)) (fun _ h9 => h9) rfl hin rfl (by decide +kernel) rfl rfl (Nat.le_of_ble_eq_true rfl) dP_init_8 (fun H locs hP hD hS => ?_)
  have hP : va_P D vwCl [(h0, .inr (0, [.int 0, .ref q6, .null, .int 0, .int 0, .int 0])), (q6, .inl (c6, 4, .inl (fun _ => 0)))] H := hP
  have hD : va_D A [(h0, .inr (0, [.int 0, .ref q6, .null, .int 0, .int 0, .int 0])), (q6, .inl (c6, 4, .inl (fun _ => 0)))] := hD
  refine lv_aload_n hx hb dP_init_11 rfl (lv_at hl 0 rfl) ?_
  refine lv_iconst (v := 4) hx hb dP_init_12 (by decide) ?_
  refine va_newa (atype := .int) (ty := .int) (N' := 4) (a0 := (4, .inl (fun _ => 0))) hx hb (hts (.arrayClass .int) (by decide +kernel)) rfl hK hP hD hS hA (fun _ => rfl) (by decide) (by decide) (by decide) (Nat.le_of_ble_eq_true rfl) (Nat.le_of_ble_eq_true rfl) dP_init_13 (fun q13 c13 H hK hP hD hS => ?_)
  have hP : va_P D vwCl [(h0, .inr (0, [.int 0, .ref q6, .null, .int 0, .int 0, .int 0])), (q6, .inl (c6, 4, .inl (fun _ => 0))), (q13, .inl (c13, 4, .inl (fun _ => 0)))] H := hP
  have hD : va_D A [(h0, .inr (0, [.int 0, .ref q6, .null, .int 0, .int 0, .int 0])), (q6, .inl (c6, 4, .inl (fun _ => 0))), (q13, .inl (c13, 4, .inl (fun _ => 0)))] := hD
  have hK : va_K D vwCl [(c6, .int), (c13, .int)] s := hK
  refine W.widen (k := 2) (n := 8) (Nat.le_of_ble_eq_true rfl) (Nat.le_of_ble_eq_true rfl) ?_
  refine va_putF (D := D) (ci := 0) (v := .ref q13) (ty := (.array .int)) (C := RP) (T := FP) (N := 6) hx hb hts inP tP tP_ok nP hown hK hP hD hS 0 rfl rfl 2 (by decide) (hts (.fieldLink RP 15 "TierStore$Tapes" "trialEnds" "[I") (by decide +kernel)) (fun _ h9 => h9) rfl hin rfl (by decide +kernel) rfl rfl (Nat.le_of_ble_eq_true rfl) dP_init_15 (fun H locs hP hD hS => ?_)
  have hP : va_P D vwCl [(h0, .inr (0, [.int 0, .ref q6, .ref q13, .int 0, .int 0, .int 0])), (q6, .inl (c6, 4, .inl (fun _ => 0))), (q13, .inl (c13, 4, .inl (fun _ => 0)))] H := hP
  have hD : va_D A [(h0, .inr (0, [.int 0, .ref q6, .ref q13, .int 0, .int 0, .int 0])), (q6, .inl (c6, 4, .inl (fun _ => 0))), (q13, .inl (c13, 4, .inl (fun _ => 0)))] := hD
  refine lv_aload_n hx hb dP_init_18 rfl (lv_at hl 0 rfl) ?_
  refine lv_iconst (v := (-1)) hx hb dP_init_19 (by decide) ?_
  refine va_put (D := D) (ci := 0) (v := .int (-1)) (ty := .int) (C := RP) (T := FP) (N := 6) hx hb hts inP tP tP_ok nP hown hK hP hD hS 0 rfl rfl 3 (by decide) (hts (.fieldLink RP 18 "TierStore$Tapes" "held" "I") (by decide +kernel)) (fun _ h9 => h9) rfl (by decide +kernel) rfl rfl (Nat.le_of_ble_eq_true rfl) dP_init_20 (fun H locs hP hD hS => ?_)
  have hP : va_P D vwCl [(h0, .inr (0, [.int 0, .ref q6, .ref q13, .int (-1), .int 0, .int 0])), (q6, .inl (c6, 4, .inl (fun _ => 0))), (q13, .inl (c13, 4, .inl (fun _ => 0)))] H := hP
  have hD : va_D A [(h0, .inr (0, [.int 0, .ref q6, .ref q13, .int (-1), .int 0, .int 0])), (q6, .inl (c6, 4, .inl (fun _ => 0))), (q13, .inl (c13, 4, .inl (fun _ => 0)))] := hD
  refine lv_aload_n hx hb dP_init_23 rfl (lv_at hl 0 rfl) ?_
  refine lv_iconst (v := 0) hx hb dP_init_24 (by decide) ?_
  refine va_put (D := D) (ci := 0) (v := .int 0) (ty := .int) (C := RP) (T := FP) (N := 6) hx hb hts inP tP tP_ok nP hown hK hP hD hS 0 rfl rfl 4 (by decide) (hts (.fieldLink RP 22 "TierStore$Tapes" "head" "I") (by decide +kernel)) (fun _ h9 => h9) rfl (by decide +kernel) rfl rfl (Nat.le_of_ble_eq_true rfl) dP_init_25 (fun H locs hP hD hS => ?_)
  have hP : va_P D vwCl [(h0, .inr (0, [.int 0, .ref q6, .ref q13, .int (-1), .int 0, .int 0])), (q6, .inl (c6, 4, .inl (fun _ => 0))), (q13, .inl (c13, 4, .inl (fun _ => 0)))] H := hP
  have hD : va_D A [(h0, .inr (0, [.int 0, .ref q6, .ref q13, .int (-1), .int 0, .int 0])), (q6, .inl (c6, 4, .inl (fun _ => 0))), (q13, .inl (c13, 4, .inl (fun _ => 0)))] := hD
  refine lv_aload_n hx hb dP_init_28 rfl (lv_at hl 0 rfl) ?_
  refine lv_iconst (v := 0) hx hb dP_init_29 (by decide) ?_
  refine va_put (D := D) (ci := 0) (v := .int 0) (ty := .int) (C := RP) (T := FP) (N := 6) hx hb hts inP tP tP_ok nP hown hK hP hD hS 0 rfl rfl 5 (by decide) (hts (.fieldLink RP 25 "TierStore$Tapes" "cost" "I") (by decide +kernel)) (fun _ h9 => h9) rfl (by decide +kernel) rfl rfl (Nat.le_of_ble_eq_true rfl) dP_init_30 (fun H locs hP hD hS => ?_)
  have hP : va_P D vwCl [(h0, .inr (0, [.int 0, .ref q6, .ref q13, .int (-1), .int 0, .int 0])), (q6, .inl (c6, 4, .inl (fun _ => 0))), (q13, .inl (c13, 4, .inl (fun _ => 0)))] H := hP
  have hD : va_D A [(h0, .inr (0, [.int 0, .ref q6, .ref q13, .int (-1), .int 0, .int 0])), (q6, .inl (c6, 4, .inl (fun _ => 0))), (q13, .inl (c13, 4, .inl (fun _ => 0)))] := hD
  refine lv_aload_n hx hb dP_init_33 rfl (lv_at hl 0 rfl) ?_
  refine lv_iload_n hx hb dP_init_34 rfl (lv_at hl 1 rfl) ?_
  refine va_putF (D := D) (ci := 0) (v := .int x1) (ty := .int) (C := RP) (T := FP) (N := 6) hx hb hts inP tP tP_ok nP hown hK hP hD hS 0 rfl rfl 0 (by decide) (hts (.fieldLink RP 28 "TierStore$Tapes" "length" "I") (by decide +kernel)) (fun _ h9 => h9) rfl hin rfl (by decide +kernel) rfl rfl (Nat.le_of_ble_eq_true rfl) dP_init_35 (fun H locs hP hD hS => ?_)
  have hP : va_P D vwCl [(h0, .inr (0, [.int x1, .ref q6, .ref q13, .int (-1), .int 0, .int 0])), (q6, .inl (c6, 4, .inl (fun _ => 0))), (q13, .inl (c13, 4, .inl (fun _ => 0)))] H := hP
  have hD : va_D A [(h0, .inr (0, [.int x1, .ref q6, .ref q13, .int (-1), .int 0, .int 0])), (q6, .inl (c6, 4, .inl (fun _ => 0))), (q13, .inl (c13, 4, .inl (fun _ => 0)))] := hD
  exact W.vret hx hb hr (fun t ht hW => ⟨⟨(q6, q13, c6, c13), rfl, trivial, by rw [ht]; exact hP, va_K.moved hW.alike hK, hD⟩, hS.F ht⟩) hS.2.2 dP_init_38
