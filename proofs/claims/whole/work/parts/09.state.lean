section
variable {p : Program} {l : Launch} {e : Env} {R : Room} {s : State} {m : MethodId} {args : Array Value} {below : List Frame} {meth : Method} {c : Code} {H : Heap} {locs : List Loc} {Q : State → Prop} {cc : ByteArray} {pc : Nat} {ls : Array Slot} {rest : List Value} {D : va_G} {cl : List vw_C} {tys : List (ClassId × FieldType)} {ws : va_W} {a : Nat} {cells slots : Nat}
theorem ts_aldA (hexec : p.tables.exec = Jvm.exec) (hb : c.code = cc) (hK : va_K D cl tys s) (hP : va_P D cl ws H) (q0 t0 : Nat) {cA : ClassId} {t : FieldType} {n : Nat} {f : Nat → Option Nat} (ha : ws[q0]? = some (a, .inl (cA, n, .inr (.inr (.inr (.inr f)))))) (ht : tys[t0]? = some (cA, .array t)) {i : Int32} (hin : vp_in i n) (hdg : decode cc pc = .ok (.aaload, 1))
    (kk : W p l e R s m args below meth c H locs cells slots Q (F0 m (pc + 1) ls (va_rf (f i.toNatClampNeg) :: rest))) : W p l e R s m args below meth c H locs cells slots Q (F0 m pc ls (.int i :: .ref a :: rest)) := by
  have hlt : i.toNatClampNeg < n := Nat.not_le.mp fun q => hin (Or.inr q)
  refine W.aald (v := va_rf (f i.toNatClampNeg)) (ty := .array t) hexec hb (hP q0 _ ha) ((hK.2 t0 _ ht).1 n (fun j => va_rf (f j))) rfl (fun q => by cases q) ?_ ?_ rfl rfl hdg kk
  · show ¬ (i < 0 ∨ (arrV _ _ _).slots.size ≤ _)
    rw [arrV_size]
    exact hin
  · show (arrV _ _ _).slots[_]? = _
    rw [arrV_read _ _ hlt]

end
/-! the two worlds. Numbers of both: 0 room, 1 uses, 2 listedSize, 3 length, 4 held, 5 head, 6 cost; rows: 2 states, 3 lengths, 5 cartridges of the copies, 6 their places, 7 waits, 8 used, 9 listed (order), 10 ends, 11 trial ends; 4 the reference's cells, 20 + i the class's row of cells of the file i -/
def tt_f (ad : Nat → Nat) (u : ts_S) : List Value := [.int (u.1 0), .ref (ad 1), .ref (ad 2), .ref (ad 3), .ref (ad 4), .ref (ad 5), .ref (ad 6), .ref (ad 7), .ref (ad 8), .int (u.1 1), .ref (ad 9), .int (u.1 2)]
def tt_g (ad : Nat → Nat) (u : ts_S) : List Value := [.int (u.1 3), .ref (ad 10), .ref (ad 11), .int (u.1 4), .int (u.1 5), .int (u.1 6)]
def tt_rw (ad : Nat → Nat) (ca : Nat → ClassId) (u : ts_S) (i : Nat) : Nat × va_E := (ad (20 + i), .inl (ca 20, 4, .inl (u.2 (20 + i))))
def tt_q (ad : Nat → Nat) : Nat → Option Nat := fun i => if i < 16 then some (ad (20 + i)) else none
def tt_x (ad : Nat → Nat) (ca : Nat → ClassId) (u : ts_S) : va_W := [(ad 0, .inr (1, tt_f ad u)), (ad 1, .inr (0, tt_g ad u)), (ad 2, .inl (ca 2, 16, .inl (u.2 2))), (ad 3, .inl (ca 3, 16, .inl (u.2 3))), (ad 4, .inl (ca 4, 16, .inr (.inr (.inr (.inr (tt_q ad)))))), (ad 5, .inl (ca 5, 16, .inl (u.2 5))), (ad 6, .inl (ca 6, 16, .inl (u.2 6))), (ad 7, .inl (ca 7, 16, .inl (u.2 7))), (ad 8, .inl (ca 8, 16, .inl (u.2 8))), (ad 9, .inl (ca 9, 16, .inl (u.2 9))), (ad 10, .inl (ca 10, 4, .inl (u.2 10))), (ad 11, .inl (ca 11, 4, .inl (u.2 11)))]
def tt_w (ad : Nat → Nat) (ca : Nat → ClassId) (u : ts_S) : va_W := tt_x ad ca u ++ (List.range 16).map (tt_rw ad ca u)
def tt_k (ca : Nat → ClassId) : List (ClassId × FieldType) := [(ca 2, .int), (ca 3, .int), (ca 4, .array .int), (ca 5, .int), (ca 6, .int), (ca 7, .boolean), (ca 8, .int), (ca 9, .int), (ca 10, .int), (ca 11, .int), (ca 20, .int)]
def tF : ts_F := (tt_w, tt_k)
def mm_f (ad : Nat → Nat) (u : ts_S) : List Value := [.int (u.1 0), .int (u.1 3), .ref (ad 2), .ref (ad 3), .ref (ad 4), .ref (ad 8), .ref (ad 5), .ref (ad 6), .ref (ad 7), .ref (ad 10), .ref (ad 11), .ref (ad 9), .int (u.1 1), .int (u.1 4), .int (u.1 5), .int (u.1 6)]
def mm_w (ad : Nat → Nat) (ca : Nat → ClassId) (u : ts_S) : va_W := [(ad 0, .inr (2, mm_f ad u)), (ad 2, .inl (ca 2, 16, .inl (u.2 2))), (ad 3, .inl (ca 3, 16, .inl (u.2 3))), (ad 4, .inl (ca 4, 64, .inl (u.2 4))), (ad 8, .inl (ca 8, 16, .inl (u.2 8))), (ad 5, .inl (ca 5, 16, .inl (u.2 5))), (ad 6, .inl (ca 6, 16, .inl (u.2 6))), (ad 7, .inl (ca 7, 16, .inl (u.2 7))), (ad 10, .inl (ca 10, 4, .inl (u.2 10))), (ad 11, .inl (ca 11, 4, .inl (u.2 11))), (ad 9, .inl (ca 9, 16, .inl (u.2 9)))]
def mm_k (ca : Nat → ClassId) : List (ClassId × FieldType) := [(ca 2, .int), (ca 3, .int), (ca 4, .int), (ca 8, .int), (ca 5, .int), (ca 6, .int), (ca 7, .boolean), (ca 10, .int), (ca 11, .int), (ca 9, .int)]
def mF : ts_F := (mm_w, mm_k)
theorem inT : ∀ w ∈ u_ws RT FT 12, w ∈ uW := by decide +kernel
theorem inP : ∀ w ∈ u_ws RP FP 6, w ∈ uW := by decide +kernel
theorem inM : ∀ w ∈ u_ws RM FM 16, w ∈ uW := by decide +kernel
theorem tt_rw_a (ad : Nat → Nat) (ca : Nat → ClassId) (u : ts_S) (i : Nat) (x : Int32) {j : Nat} (hj : j < 20) : tt_rw ad ca (ts_a j i x u) = tt_rw ad ca u := by
  funext k
  have h : ¬ (20 + k = j) := by omega
  simp only [tt_rw, ts_a, va_up, if_neg h]
theorem tt_rw_c (ad : Nat → Nat) (ca : Nat → ClassId) (u : ts_S) : tt_rw ad ca (ts_c u) = tt_rw ad ca u := by
  funext k
  have h : ¬ (20 + k = 11) := by omega
  simp only [tt_rw, ts_c, va_up, if_neg h]
theorem tt_ec (ad : Nat → Nat) (ca : Nat → ClassId) (u : ts_S) : (tt_w ad ca u).set 11 (ad 11, .inl (ca 11, 4, .inl (va_cpy (u.2 10) (u.2 11) 0 0 4))) = tt_w ad ca (ts_c u) := by
  unfold tt_w
  rw [tt_rw_c ad ca u]
  rfl
theorem tt_x_r (ad : Nat → Nat) (ca : Nat → ClassId) (u : ts_S) (i k : Nat) (x : Int32) : tt_x ad ca (ts_a (20 + i) k x u) = tt_x ad ca u := by
  have h2 : ¬ (2 = 20 + i) := by omega
  have h3 : ¬ (3 = 20 + i) := by omega
  have h5 : ¬ (5 = 20 + i) := by omega
  have h6 : ¬ (6 = 20 + i) := by omega
  have h7 : ¬ (7 = 20 + i) := by omega
  have h8 : ¬ (8 = 20 + i) := by omega
  have h9 : ¬ (9 = 20 + i) := by omega
  have h10 : ¬ (10 = 20 + i) := by omega
  have h11 : ¬ (11 = 20 + i) := by omega
  simp only [tt_x, tt_f, tt_g, ts_a, va_up, if_neg h2, if_neg h3, if_neg h5, if_neg h6, if_neg h7, if_neg h8, if_neg h9, if_neg h10, if_neg h11]
theorem tt_get_r (ad : Nat → Nat) (ca : Nat → ClassId) (u : ts_S) {i : Nat} (hi : i < 16) : (tt_w ad ca u)[12 + i]? = some (ad (20 + i), .inl (ca 20, 4, .inl (u.2 (20 + i)))) := by
  have hx : (tt_x ad ca u).length = 12 := rfl
  unfold tt_w
  rw [List.getElem?_append_right (by omega), hx]
  have : 12 + i - 12 = i := by omega
  rw [this, List.getElem?_map, List.getElem?_range hi]
  rfl
theorem tt_er (ad : Nat → Nat) (ca : Nat → ClassId) (u : ts_S) {i : Nat} (hi : i < 16) (k : Nat) (x : Int32) : (tt_w ad ca u).set (12 + i) (ad (20 + i), .inl (ca 20, 4, .inl (upd (u.2 (20 + i)) k x))) = tt_w ad ca (ts_a (20 + i) k x u) := by
  have hx : (tt_x ad ca u).length = 12 := rfl
  have e : 12 + i - 12 = i := by omega
  apply List.ext_getElem?
  intro t
  unfold tt_w
  rw [tt_x_r]
  rw [List.getElem?_set]
  by_cases ht : t < 12
  · rw [if_neg (by omega), List.getElem?_append_left (by omega), List.getElem?_append_left (by omega)]
  · rw [List.getElem?_append_right (by omega), List.getElem?_append_right (by omega), hx, List.getElem?_map, List.getElem?_map]
    by_cases hit : 12 + i = t
    · subst hit
      rw [if_pos rfl, if_pos (by simp [hx]; omega), e, List.getElem?_range hi]
      simp only [Option.map_some, tt_rw, ts_a, va_up, if_pos]
    · rw [if_neg hit]
      by_cases h2 : t - 12 < 16
      · rw [List.getElem?_range h2]
        have h : ¬ (20 + (t - 12) = 20 + i) := by omega
        simp only [Option.map_some, tt_rw, ts_a, va_up, if_neg h]
      · rw [List.getElem?_eq_none (by simp; omega)]
        rfl
section
variable {p : Program} {l : Launch} {e : Env} {R : Room} {s : State} {m : MethodId} {args : Array Value} {below : List Frame} {meth : Method} {c : Code} {H : Heap} {locs : List Loc} {Q : State → Prop} {cc : ByteArray} {pc nL : Nat} {ls : Array Slot} {rest : List Value} {D : va_G} {ca : Nat → ClassId} {ad : Nat → Nat} {A : Nat → Prop} {u : ts_S} {cells slots : Nat}
theorem ts_lt {i : Int32} {n : Nat} (h : vp_in i n) : i.toNatClampNeg < n := Nat.not_le.mp fun q => h (Or.inr q)
theorem tt_aa {own : String} (hc : CallFix p m c cc nL s args uW own) (hw : ts_W tF D ca ad A s H locs u) {i : Int32} (h : vp_in i 16) (hdg : decode cc pc = .ok (.aaload, 1)) (kk : W p l e R s m args below meth c H locs cells slots Q (F0 m (pc + 1) ls (.ref (ad (20 + i.toNatClampNeg)) :: rest))) : W p l e R s m args below meth c H locs cells slots Q (F0 m pc ls (.int i :: .ref (ad 4) :: rest)) := by
  refine ts_aldA hc.1 hc.2.1 hw.2.2.2.1 hw.1 4 2 (f := tt_q ad) rfl rfl h hdg ?_
  have e : va_rf (tt_q ad i.toNatClampNeg) = .ref (ad (20 + i.toNatClampNeg)) := by
    unfold tt_q
    rw [if_pos (ts_lt h)]
    rfl
  rw [e]
  exact kk
theorem tt_lr {own : String} (hc : CallFix p m c cc nL s args uW own) (hw : ts_W tF D ca ad A s H locs u) {f i : Int32} (hf : vp_in f 16) (h : vp_in i 4) (hdg : decode cc pc = .ok (.iaload, 1)) (kk : W p l e R s m args below meth c H locs cells slots Q (F0 m (pc + 1) ls (.int (u.2 (20 + f.toNatClampNeg) i.toNatClampNeg) :: rest))) : W p l e R s m args below meth c H locs cells slots Q (F0 m pc ls (.int i :: .ref (ad (20 + f.toNatClampNeg)) :: rest)) :=
  va_iald hc.1 hc.2.1 hw.2.2.2.1 hw.1 (12 + f.toNatClampNeg) 10 (tt_get_r ad ca u (ts_lt hf)) rfl h hdg kk
theorem tt_sr {own : String} (hc : CallFix p m c cc nL s args uW own) (hw : ts_W tF D ca ad A s H locs u) {f i x : Int32} (hf : vp_in f 16) (h : vp_in i 4) (hdg : decode cc pc = .ok (.iastore, 1)) (kk : ∀ (H1 : Heap) (locs1 : List Loc), ts_W tF D ca ad A s H1 locs1 (ts_a (20 + f.toNatClampNeg) i.toNatClampNeg x u) → W p l e R s m args below meth c H1 locs1 cells slots Q (F0 m (pc + 1) ls rest)) : W p l e R s m args below meth c H locs cells slots Q (F0 m pc ls (.int x :: .int i :: .ref (ad (20 + f.toNatClampNeg)) :: rest)) := by
  refine va_iast hc.1 hc.2.1 hw.2.2.2.1 hw.1 hw.2.1 hw.2.2.1 (12 + f.toNatClampNeg) 10 (tt_get_r ad ca u (ts_lt hf)) rfl h hdg (fun H1 locs1 a b c => kk H1 locs1 ?_)
  exact ⟨cast (congrArg (fun z => va_P D vwCl z H1) (tt_er ad ca u (ts_lt hf) _ _)) a, cast (congrArg (fun z => va_D A z) (tt_er ad ca u (ts_lt hf) _ _)) b, c, hw.2.2.2⟩
end

theorem tt_e2 (ad : Nat → Nat) (ca : Nat → ClassId) (u : ts_S) (i : Nat) (x : Int32) : (tt_w ad ca u).set 2 (ad 2, .inl (ca 2, 16, .inl (upd (u.2 2) i x))) = tt_w ad ca (ts_a 2 i x u) := by
  unfold tt_w
  rw [tt_rw_a ad ca u i x (by decide : 2 < 20)]
  rfl
theorem tt_e3 (ad : Nat → Nat) (ca : Nat → ClassId) (u : ts_S) (i : Nat) (x : Int32) : (tt_w ad ca u).set 3 (ad 3, .inl (ca 3, 16, .inl (upd (u.2 3) i x))) = tt_w ad ca (ts_a 3 i x u) := by
  unfold tt_w
  rw [tt_rw_a ad ca u i x (by decide : 3 < 20)]
  rfl
theorem tt_e5 (ad : Nat → Nat) (ca : Nat → ClassId) (u : ts_S) (i : Nat) (x : Int32) : (tt_w ad ca u).set 5 (ad 5, .inl (ca 5, 16, .inl (upd (u.2 5) i x))) = tt_w ad ca (ts_a 5 i x u) := by
  unfold tt_w
  rw [tt_rw_a ad ca u i x (by decide : 5 < 20)]
  rfl
theorem tt_e6 (ad : Nat → Nat) (ca : Nat → ClassId) (u : ts_S) (i : Nat) (x : Int32) : (tt_w ad ca u).set 6 (ad 6, .inl (ca 6, 16, .inl (upd (u.2 6) i x))) = tt_w ad ca (ts_a 6 i x u) := by
  unfold tt_w
  rw [tt_rw_a ad ca u i x (by decide : 6 < 20)]
  rfl
theorem tt_e7 (ad : Nat → Nat) (ca : Nat → ClassId) (u : ts_S) (i : Nat) (x : Int32) : (tt_w ad ca u).set 7 (ad 7, .inl (ca 7, 16, .inl (upd (u.2 7) i x))) = tt_w ad ca (ts_a 7 i x u) := by
  unfold tt_w
  rw [tt_rw_a ad ca u i x (by decide : 7 < 20)]
  rfl
theorem tt_e8 (ad : Nat → Nat) (ca : Nat → ClassId) (u : ts_S) (i : Nat) (x : Int32) : (tt_w ad ca u).set 8 (ad 8, .inl (ca 8, 16, .inl (upd (u.2 8) i x))) = tt_w ad ca (ts_a 8 i x u) := by
  unfold tt_w
  rw [tt_rw_a ad ca u i x (by decide : 8 < 20)]
  rfl
theorem tt_e9 (ad : Nat → Nat) (ca : Nat → ClassId) (u : ts_S) (i : Nat) (x : Int32) : (tt_w ad ca u).set 9 (ad 9, .inl (ca 9, 16, .inl (upd (u.2 9) i x))) = tt_w ad ca (ts_a 9 i x u) := by
  unfold tt_w
  rw [tt_rw_a ad ca u i x (by decide : 9 < 20)]
  rfl
theorem tt_e10 (ad : Nat → Nat) (ca : Nat → ClassId) (u : ts_S) (i : Nat) (x : Int32) : (tt_w ad ca u).set 10 (ad 10, .inl (ca 10, 4, .inl (upd (u.2 10) i x))) = tt_w ad ca (ts_a 10 i x u) := by
  unfold tt_w
  rw [tt_rw_a ad ca u i x (by decide : 10 < 20)]
  rfl
theorem tt_e11 (ad : Nat → Nat) (ca : Nat → ClassId) (u : ts_S) (i : Nat) (x : Int32) : (tt_w ad ca u).set 11 (ad 11, .inl (ca 11, 4, .inl (upd (u.2 11) i x))) = tt_w ad ca (ts_a 11 i x u) := by
  unfold tt_w
  rw [tt_rw_a ad ca u i x (by decide : 11 < 20)]
  rfl
theorem mm_e2 (ad : Nat → Nat) (ca : Nat → ClassId) (u : ts_S) (i : Nat) (x : Int32) : (mm_w ad ca u).set 1 (ad 2, .inl (ca 2, 16, .inl (upd (u.2 2) i x))) = mm_w ad ca (ts_a 2 i x u) := by
  rfl
theorem mm_e3 (ad : Nat → Nat) (ca : Nat → ClassId) (u : ts_S) (i : Nat) (x : Int32) : (mm_w ad ca u).set 2 (ad 3, .inl (ca 3, 16, .inl (upd (u.2 3) i x))) = mm_w ad ca (ts_a 3 i x u) := by
  rfl
theorem mm_e4 (ad : Nat → Nat) (ca : Nat → ClassId) (u : ts_S) (i : Nat) (x : Int32) : (mm_w ad ca u).set 3 (ad 4, .inl (ca 4, 64, .inl (upd (u.2 4) i x))) = mm_w ad ca (ts_a 4 i x u) := by
  rfl
theorem mm_e8 (ad : Nat → Nat) (ca : Nat → ClassId) (u : ts_S) (i : Nat) (x : Int32) : (mm_w ad ca u).set 4 (ad 8, .inl (ca 8, 16, .inl (upd (u.2 8) i x))) = mm_w ad ca (ts_a 8 i x u) := by
  rfl
theorem mm_e5 (ad : Nat → Nat) (ca : Nat → ClassId) (u : ts_S) (i : Nat) (x : Int32) : (mm_w ad ca u).set 5 (ad 5, .inl (ca 5, 16, .inl (upd (u.2 5) i x))) = mm_w ad ca (ts_a 5 i x u) := by
  rfl
theorem mm_e6 (ad : Nat → Nat) (ca : Nat → ClassId) (u : ts_S) (i : Nat) (x : Int32) : (mm_w ad ca u).set 6 (ad 6, .inl (ca 6, 16, .inl (upd (u.2 6) i x))) = mm_w ad ca (ts_a 6 i x u) := by
  rfl
theorem mm_e7 (ad : Nat → Nat) (ca : Nat → ClassId) (u : ts_S) (i : Nat) (x : Int32) : (mm_w ad ca u).set 7 (ad 7, .inl (ca 7, 16, .inl (upd (u.2 7) i x))) = mm_w ad ca (ts_a 7 i x u) := by
  rfl
theorem mm_e10 (ad : Nat → Nat) (ca : Nat → ClassId) (u : ts_S) (i : Nat) (x : Int32) : (mm_w ad ca u).set 8 (ad 10, .inl (ca 10, 4, .inl (upd (u.2 10) i x))) = mm_w ad ca (ts_a 10 i x u) := by
  rfl
theorem mm_e11 (ad : Nat → Nat) (ca : Nat → ClassId) (u : ts_S) (i : Nat) (x : Int32) : (mm_w ad ca u).set 9 (ad 11, .inl (ca 11, 4, .inl (upd (u.2 11) i x))) = mm_w ad ca (ts_a 11 i x u) := by
  rfl
theorem mm_e9 (ad : Nat → Nat) (ca : Nat → ClassId) (u : ts_S) (i : Nat) (x : Int32) : (mm_w ad ca u).set 10 (ad 9, .inl (ca 9, 16, .inl (upd (u.2 9) i x))) = mm_w ad ca (ts_a 9 i x u) := by
  rfl
