/-! ===== BEGIN new T[n][m]: the outer array a place, the inner ones among the pooled ===== -/
/-- f, but v at every address of l -/
def vr_up {α : Type} (f : Nat → α) (l : List Nat) (v : α) : Nat → α := fun a => if a ∈ l then v else f a
theorem vr_up_in {α : Type} {f : Nat → α} {l : List Nat} {v : α} {a : Nat} (h : a ∈ l) : vr_up f l v a = v := if_pos h
theorem vr_up_ne {α : Type} {f : Nat → α} {l : List Nat} {v : α} {a : Nat} (h : a ∉ l) : vr_up f l v a = f a := if_neg h
theorem vr_rows {L l : List Nat} {f : Nat → va_E} {e : va_E} (h : ∀ a, a ∈ l → a ∉ L) : va_pl L f ++ l.map (fun a => (a, e)) = va_pl (L ++ l) (vr_up f l e) := by
  unfold va_pl
  rw [List.map_append]
  congr 1
  · apply List.map_congr_left
    intro a ha
    rw [vr_up_ne (fun q => h a q ha)]
  · apply List.map_congr_left
    intro a ha
    rw [vr_up_in ha]
theorem vr_lay {X rows : va_W} {x : Nat × va_E} {pl : va_W} {D : va_G} {cl : List vw_C} {H : Heap} (hP : va_P D cl (((X ++ pl) ++ [x]) ++ rows) H) : va_P D cl ((X ++ [x]) ++ (pl ++ rows)) H := by
  rw [List.append_assoc (X ++ pl)] at hP
  have h := va_P.swap hP
  rw [← List.append_assoc X] at h
  have h2 := va_P.swap h
  rw [List.append_assoc (X ++ [x])] at h2
  exact h2
theorem vr_layD {X rows : va_W} {x : Nat × va_E} {pl : va_W} {A : Nat → Prop} (hD : va_D A (((X ++ pl) ++ [x]) ++ rows)) : va_D A ((X ++ [x]) ++ (pl ++ rows)) := by
  rw [List.append_assoc (X ++ pl)] at hD
  have h := va_D.swap hD
  rw [← List.append_assoc X] at h
  have h2 := va_D.swap h
  rw [List.append_assoc (X ++ [x])] at h2
  exact h2
theorem vr_outer (c : ClassId) (N h0 : Nat) : ∀ i : Nat, Jvm.Free.Multi.outerC c N h0 i = arrV c N (fun j => va_rf (if j < i then some (h0 + 1 + j) else none))
  | 0 => by
    show ({ cls := c, slots := Array.replicate N .null, vm := .none } : Cell) = _
    rw [arrV_new]
    refine congrArg (arrV c N) (funext fun j => ?_)
    simp [va_rf]
  | i + 1 => by
    show (Jvm.Free.Multi.outerC c N h0 i).setSlot i (.ref (h0 + 1 + i)) = _
    rw [vr_outer c N h0 i, arrV_store]
    refine congrArg (arrV c N) (funext fun j => ?_)
    by_cases e : j = i
    · subst e
      simp [updV, va_rf]
    · by_cases h : j < i
      · simp [updV, e, h, Nat.lt_succ_of_lt h]
      · simp [updV, e, h, show ¬ j < i + 1 by omega]
section VGM
variable {p : Program} {l : Launch} {e : Env} {R : Room} {s : State} {m : MethodId} {args : Array Value} {below : List Frame} {meth : Method} {c : Code} {H : Heap} {locs : List Loc} {cells slots : Nat} {Q : State → Prop}
variable {cc : ByteArray} {pc : Nat} {ls : Array Slot} {rest : List Value} {D : va_G} {cl : List vw_C} {A : Nat → Prop} {a : Nat} {tys : List (ClassId × FieldType)} {ws : va_W} {H0 : Heap}
theorem va_mna {X : va_W} {L : List Nat} {f : Nat → va_E} {cc : ByteArray} (hexec : p.tables.exec = Jvm.exec) (hb : c.code = cc) {own : String} {index : Nat} {ty : FieldType} {cy : ClassId} (hown : s.vm.findClass own = some m.cls) (hclink : (Cond.classLink own index ("[" ++ (FieldType.array ty).toString)).before args s = true) (hover : (Cond.arrayOver (.array ty)).before args s = true) (harr : (Cond.arrayClass ty).before args s = true) (hcy : s.vm.findClass (FieldType.array ty).toString = some cy)
    (hK : va_K D cl tys s) (hP : va_P D cl (X ++ va_pl L f) H) (hD : va_D A (X ++ va_pl L f)) (hS : va_S A H0 H locs) (hA : ∀ q, H0.size ≤ q → A q) {n k : Int32} {N' K' : Nat} {z : vp_A} (hn : ¬ n < 0) (hk : ¬ k < 0) (hN : n.toNatClampNeg = N') (hM : k.toNatClampNeg = K')
    (hb1 : N' * 4 ≤ 536870912) (hb2 : K' * componentBytes ty ≤ 536870912) (hb3 : K' ≤ 536870912) (hdf : fits ty (defaultValue ty) = true) (hdd : (defaultValue ty).isDefault = true) (hcells : cells + (1 + N') ≤ R.cells) (hslots : slots + (N' + N' * K') ≤ R.slots) (hz : ∀ c : ClassId, Jvm.Free.Multi.innerC c K' (defaultValue ty) = vp_cell c z) (hdg : decode cc pc = .ok (.multianewarray index 2, 4))
    (kk : ∀ (q : Nat) (r : Nat → Nat) (cA : ClassId) (H1 : Heap), (∀ i j : Nat, i < N' → j < N' → r i = r j → i = j) → (∀ i : Nat, i < N' → r i ∉ L) → va_K D cl (tys ++ [(cA, .array ty)]) s →
      va_P D cl ((X ++ [(q, .inl (cA, N', .inr (.inr (.inr (.inr (fun i => if i < N' then some (r i) else none))))))]) ++ va_pl (L ++ (List.range N').map r) (vr_up f ((List.range N').map r) (.inl (cy, z)))) H1 → va_D A ((X ++ [(q, .inl (cA, N', .inr (.inr (.inr (.inr (fun i => if i < N' then some (r i) else none))))))]) ++ va_pl (L ++ (List.range N').map r) (vr_up f ((List.range N').map r) (.inl (cy, z)))) → va_S A H0 H1 locs →
      W p l e R s m args below meth c H1 locs (cells + 1 + N') (slots + N' + N' * K') Q (F0 m (pc + 4) ls (.ref q :: rest))) : W p l e R s m args below meth c H locs cells slots Q (F0 m pc ls (.int k :: .int n :: rest)) := by
  subst hN
  subst hM
  intro T hT Xs
  obtain ⟨vm₁, cA, comp, -, fA, fC, hO, -, X', step⟩ := Xs.multianewarray2F hexec hown hclink hover harr (g := F0 m pc ls (.int k :: .int n :: rest)) rfl (by rw [hb]; exact hdg) rfl hn hk hb1 hb2 hb3 hdf hdd hcells hslots
  have ec : some cy = some comp := hcy.symm.trans fC
  cases ec
  generalize hF : Jvm.Free.Multi.fill (T.setVm vm₁) cA cy n.toNatClampNeg k.toNatClampNeg (defaultValue ty) n.toNatClampNeg = F at X' step
  have hTh : (T.setVm vm₁).heap = H := hT
  obtain ⟨f1, f2, -, -⟩ := Jvm.Free.Multi.fill_facts (T.setVm vm₁) cA cy n.toNatClampNeg k.toNatClampNeg (defaultValue ty) n.toNatClampNeg
  rw [hF, hTh] at f1 f2
  have hold : ∀ x : Nat, x < H.size → F.heap[x]? = H[x]? := fun x hx => by
    have := Jvm.Free.Multi.fill_old (T.setVm vm₁) cA cy n.toNatClampNeg k.toNatClampNeg (defaultValue ty) (a := x) (by rw [hTh]; exact hx) n.toNatClampNeg
    rw [hF, hTh] at this
    exact this
  have hrow : ∀ j : Nat, j < n.toNatClampNeg → F.heap[H.size + 1 + j]? = some (vp_cell cy z) := fun j hj => by
    have := Jvm.Free.Multi.fill_inner (T.setVm vm₁) cA cy n.toNatClampNeg k.toNatClampNeg (defaultValue ty) n.toNatClampNeg j hj
    rw [hF, hTh, hz] at this
    exact this
  have hout : Jvm.Free.Multi.outerC cA n.toNatClampNeg H.size n.toNatClampNeg = vp_cell cA (n.toNatClampNeg, .inr (.inr (.inr (.inr (fun i => if i < n.toNatClampNeg then some (H.size + 1 + i) else none))))) := by
    rw [vp_cell_q]
    exact vr_outer cA n.toNatClampNeg H.size n.toNatClampNeg
  rw [hout] at f2
  have hlt : ∀ a, a ∈ L → a < H.size := fun a ha => by
    obtain ⟨k9, hk9⟩ := va_pl_get (X := X) (f := f) ha
    exact (hP k9 _ hk9).lt
  have hnl : ∀ i : Nat, i < n.toNatClampNeg → H.size + 1 + i ∉ L := fun i _ h => by
    have := hlt _ h
    omega
  have hnm : ∀ a, a ∈ (List.range n.toNatClampNeg).map (fun i => H.size + 1 + i) → a ∉ L := fun a ha h => by
    obtain ⟨i, -, rfl⟩ := List.mem_map.mp ha
    have := hlt _ h
    omega
  have hP0 : va_P D cl (X ++ va_pl L f) F.heap := hP.kept (fun k9 x hx => hold x.1 ((hP k9 x hx).lt))
  have hP1 : va_P D cl ((X ++ va_pl L f) ++ [(H.size, .inl (cA, n.toNatClampNeg, .inr (.inr (.inr (.inr (fun i => if i < n.toNatClampNeg then some (H.size + 1 + i) else none))))))]) F.heap := hP0.app (fun k9 x hx => by
    have h0 : k9 < 1 := (List.getElem?_eq_some_iff.mp hx).1
    rw [show k9 = 0 by omega] at hx
    cases hx
    exact f2)
  have hP2 : va_P D cl (((X ++ va_pl L f) ++ [(H.size, .inl (cA, n.toNatClampNeg, .inr (.inr (.inr (.inr (fun i => if i < n.toNatClampNeg then some (H.size + 1 + i) else none))))))]) ++ ((List.range n.toNatClampNeg).map (fun i => H.size + 1 + i)).map (fun a => (a, .inl (cy, z)))) F.heap := hP1.app (fun k9 x hx => by
    obtain ⟨a, ha, rfl⟩ := List.mem_map.mp (List.mem_of_getElem? hx)
    obtain ⟨i, hi, rfl⟩ := List.mem_map.mp ha
    exact hrow i (List.mem_range.mp hi))
  have hD2 : va_D A (((X ++ va_pl L f) ++ [(H.size, .inl (cA, n.toNatClampNeg, .inr (.inr (.inr (.inr (fun i => if i < n.toNatClampNeg then some (H.size + 1 + i) else none))))))]) ++ ((List.range n.toNatClampNeg).map (fun i => H.size + 1 + i)).map (fun a => (a, .inl (cy, z)))) := by
    have hD1 := hD.push (e := .inl (cA, n.toNatClampNeg, .inr (.inr (.inr (.inr (fun i => if i < n.toNatClampNeg then some (H.size + 1 + i) else none)))))) hP rfl (hA _ hS.1)
    generalize hW1 : (X ++ va_pl L f) ++ [(H.size, .inl (cA, n.toNatClampNeg, .inr (.inr (.inr (.inr (fun i => if i < n.toNatClampNeg then some (H.size + 1 + i) else none))))))] = W1 at hD1 hP1 ⊢
    have hle : ∀ (k9 : Nat) (x : Nat × va_E), W1[k9]? = some x → x.1 ≤ H.size := fun k9 x hx => by
      rw [← hW1] at hx
      by_cases hl : k9 < (X ++ va_pl L f).length
      · rw [List.getElem?_append_left hl] at hx
        exact Nat.le_of_lt ((hP k9 x hx).lt)
      · rw [List.getElem?_append_right (by omega)] at hx
        have h0 : k9 - (X ++ va_pl L f).length < 1 := (List.getElem?_eq_some_iff.mp hx).1
        rw [show k9 - (X ++ va_pl L f).length = 0 by omega] at hx
        cases hx
        exact Nat.le_refl _
    have hr : ∀ (k9 : Nat) (x : Nat × va_E), (((List.range n.toNatClampNeg).map (fun i => H.size + 1 + i)).map (fun a => ((a, .inl (cy, z)) : Nat × va_E)))[k9]? = some x → x.1 = H.size + 1 + k9 := fun k9 x hx => by
      rw [List.getElem?_map, List.getElem?_map] at hx
      by_cases h9 : k9 < n.toNatClampNeg
      · rw [List.getElem?_range h9] at hx
        cases hx
        rfl
      · have hn0 : (List.range n.toNatClampNeg)[k9]? = none := List.getElem?_eq_none (by rw [List.length_range]; omega)
        rw [hn0] at hx
        cases hx
    refine ⟨fun i j x y hi hj hxy => ?_, fun k9 x hx => ?_⟩
    · by_cases h1 : i < W1.length <;> by_cases h2 : j < W1.length
      · rw [List.getElem?_append_left h1] at hi
        rw [List.getElem?_append_left h2] at hj
        exact hD1.1 i j x y hi hj hxy
      · rw [List.getElem?_append_left h1] at hi
        rw [List.getElem?_append_right (by omega)] at hj
        have := hle _ _ hi
        have := hr _ _ hj
        omega
      · rw [List.getElem?_append_right (by omega)] at hi
        rw [List.getElem?_append_left h2] at hj
        have := hle _ _ hj
        have := hr _ _ hi
        omega
      · rw [List.getElem?_append_right (by omega)] at hi hj
        have := hr _ _ hi
        have := hr _ _ hj
        omega
    · by_cases h1 : k9 < W1.length
      · rw [List.getElem?_append_left h1] at hx
        exact hD1.2 k9 x hx
      · rw [List.getElem?_append_right (by omega)] at hx
        have := hr _ _ hx
        exact hA _ (by have := hS.1; omega)
  have hAr : ArrOfT s cA (.array ty) := fun N9 z9 => by
    obtain ⟨-, k9, hk9, cm9, hkk9⟩ := (hO 0 0 0).1
    exact ⟨(fun q hq => by cases hq), k9, hk9, cm9, hkk9⟩
  have hK2 : va_K D cl (tys ++ [(cA, .array ty)]) s := ⟨hK.1, fun k9 x hx => by
    by_cases hl : k9 < tys.length
    · rw [List.getElem?_append_left hl] at hx
      exact hK.2 k9 x hx
    · rw [List.getElem?_append_right (by omega)] at hx
      have h0 : k9 - tys.length < 1 := (List.getElem?_eq_some_iff.mp hx).1
      rw [show k9 - tys.length = 0 by omega] at hx
      cases hx
      exact ⟨hAr, fA⟩⟩
  obtain ⟨t, a1, b1⟩ := kk H.size (fun i => H.size + 1 + i) cA F.heap (fun i j _ _ h => by have h9 : H.size + 1 + i = H.size + 1 + j := h; omega) hnl hK2 (by rw [← vr_rows hnm]; exact vr_lay hP2) (by rw [← vr_rows hnm]; exact vr_layD hD2) ⟨by rw [f1]; have := hS.1; omega, fun x h1 h2 => (hold x (Nat.lt_of_lt_of_le h1 hS.1)).trans (hS.2.1 x h1 h2), hS.2.2⟩ F rfl X'
  refine ⟨t, step t ?_, b1⟩
  have e : T.heap.size = H.size := by rw [hT]
  rw [e]
  exact a1
end VGM
/-! ===== END ===== -/


def RP : String := "TierStore$Tapes"
def FP : u_T := fun k => match k with
  | 0 => ("TierStore$Tapes", "length", "I", true)
  | 1 => ("TierStore$Tapes", "ends", "[I", true)
  | 2 => ("TierStore$Tapes", "trialEnds", "[I", true)
  | 3 => ("TierStore$Tapes", "held", "I", false)
  | 4 => ("TierStore$Tapes", "head", "I", false)
  | _ => ("TierStore$Tapes", "cost", "I", false)
def tP : Nat → FieldType := fun k => match k with
  | 0 => .int
  | 1 => (.array .int)
  | 2 => (.array .int)
  | 3 => .int
  | 4 => .int
  | _ => .int
theorem nP : ∀ a, a < 6 → ∀ b, b < 6 → a ≠ b → (FP a).2.1 ≠ (FP b).2.1 := by decide +kernel
theorem tP_ok : ∀ k, k < 6 → parseFieldDescriptor (FP k).2.2.1 = some (tP k) := by decide +kernel
def RT : String := "TierStore"
def FT : u_T := fun k => match k with
  | 0 => ("TierStore", "room", "I", true)
  | 1 => ("TierStore", "tapes", "LTierStore$Tapes;", true)
  | 2 => ("TierStore", "states", "[I", true)
  | 3 => ("TierStore", "lengths", "[I", true)
  | 4 => ("TierStore", "cells", "[[I", true)
  | 5 => ("TierStore", "copyCartridges", "[I", true)
  | 6 => ("TierStore", "copyPlaces", "[I", true)
  | 7 => ("TierStore", "waits", "[Z", true)
  | 8 => ("TierStore", "usedAt", "[I", true)
  | 9 => ("TierStore", "uses", "I", false)
  | 10 => ("TierStore", "listed", "[I", true)
  | _ => ("TierStore", "listedSize", "I", false)
def tT : Nat → FieldType := fun k => match k with
  | 0 => .int
  | 1 => (.object "TierStore$Tapes")
  | 2 => (.array .int)
  | 3 => (.array .int)
  | 4 => (.array (.array .int))
  | 5 => (.array .int)
  | 6 => (.array .int)
  | 7 => (.array .boolean)
  | 8 => (.array .int)
  | 9 => .int
  | 10 => (.array .int)
  | _ => .int
theorem nT : ∀ a, a < 12 → ∀ b, b < 12 → a ≠ b → (FT a).2.1 ≠ (FT b).2.1 := by decide +kernel
theorem tT_ok : ∀ k, k < 12 → parseFieldDescriptor (FT k).2.2.1 = some (tT k) := by decide +kernel
def RM : String := "TierStoreModel"
def FM : u_T := fun k => match k with
  | 0 => ("TierStoreModel", "room", "I", true)
  | 1 => ("TierStoreModel", "length", "I", true)
  | 2 => ("TierStoreModel", "state", "[I", true)
  | 3 => ("TierStoreModel", "size", "[I", true)
  | 4 => ("TierStoreModel", "cell", "[I", true)
  | 5 => ("TierStoreModel", "used", "[I", true)
  | 6 => ("TierStoreModel", "where", "[I", true)
  | 7 => ("TierStoreModel", "place", "[I", true)
  | 8 => ("TierStoreModel", "waits", "[Z", true)
  | 9 => ("TierStoreModel", "end", "[I", true)
  | 10 => ("TierStoreModel", "tried", "[I", true)
  | 11 => ("TierStoreModel", "order", "[I", true)
  | 12 => ("TierStoreModel", "uses", "I", false)
  | 13 => ("TierStoreModel", "drive", "I", false)
  | 14 => ("TierStoreModel", "head", "I", false)
  | _ => ("TierStoreModel", "cost", "I", false)
def tM : Nat → FieldType := fun k => match k with
  | 0 => .int
  | 1 => .int
  | 2 => (.array .int)
  | 3 => (.array .int)
  | 4 => (.array .int)
  | 5 => (.array .int)
  | 6 => (.array .int)
  | 7 => (.array .int)
  | 8 => (.array .boolean)
  | 9 => (.array .int)
  | 10 => (.array .int)
  | 11 => (.array .int)
  | 12 => .int
  | 13 => .int
  | 14 => .int
  | _ => .int
theorem nM : ∀ a, a < 16 → ∀ b, b < 16 → a ≠ b → (FM a).2.1 ≠ (FM b).2.1 := by decide +kernel
theorem tM_ok : ∀ k, k < 16 → parseFieldDescriptor (FM k).2.2.1 = some (tM k) := by decide +kernel
def RL : String := "TierStoreLaw"
abbrev vwCl : List vw_C := [(RP, FP, 6), (RT, FT, 12), (RM, FM, 16)]
abbrev bT_init : ByteArray := prog_1_method_1_code
def yT_init : MethodName := ⟨RT, "<init>", "(II)V"⟩
abbrev bT_create : ByteArray := prog_1_method_2_code
def yT_create : MethodName := ⟨RT, "create", "(II)I"⟩
abbrev bT_write : ByteArray := prog_1_method_3_code
def yT_write : MethodName := ⟨RT, "write", "(III)I"⟩
abbrev bT_read : ByteArray := prog_1_method_4_code
def yT_read : MethodName := ⟨RT, "read", "(II)J"⟩
abbrev bT_remove : ByteArray := prog_1_method_5_code
def yT_remove : MethodName := ⟨RT, "remove", "(I)I"⟩
abbrev bT_backUp : ByteArray := prog_1_method_6_code
def yT_backUp : MethodName := ⟨RT, "backUp", "()I"⟩
abbrev bT_tidy : ByteArray := prog_1_method_7_code
def yT_tidy : MethodName := ⟨RT, "tidy", "(II)I"⟩
abbrev bT_ask : ByteArray := prog_1_method_8_code
def yT_ask : MethodName := ⟨RT, "ask", "(I)I"⟩
abbrev bT_serve : ByteArray := prog_1_method_9_code
def yT_serve : MethodName := ⟨RT, "serve", "()I"⟩
abbrev bT_empty : ByteArray := prog_1_method_10_code
def yT_empty : MethodName := ⟨RT, "empty", "(I)I"⟩
abbrev bT_lose : ByteArray := prog_1_method_11_code
def yT_lose : MethodName := ⟨RT, "lose", "(I)I"⟩
abbrev bT_file : ByteArray := prog_1_method_12_code
def yT_file : MethodName := ⟨RT, "file", "(II)I"⟩
abbrev bT_cartridge : ByteArray := prog_1_method_13_code
def yT_cartridge : MethodName := ⟨RT, "cartridge", "(II)I"⟩
abbrev bT_count : ByteArray := prog_1_method_14_code
def yT_count : MethodName := ⟨RT, "count", "(I)I"⟩
abbrev bT_isFileNumber : ByteArray := prog_1_method_15_code
def yT_isFileNumber : MethodName := ⟨RT, "isFileNumber", "(I)Z"⟩
abbrev bT_isCartridgeNumber : ByteArray := prog_1_method_16_code
def yT_isCartridgeNumber : MethodName := ⟨RT, "isCartridgeNumber", "(I)Z"⟩
abbrev bT_isUnits : ByteArray := prog_1_method_17_code
def yT_isUnits : MethodName := ⟨RT, "isUnits", "(I)Z"⟩
abbrev bT_isPresent : ByteArray := prog_1_method_18_code
def yT_isPresent : MethodName := ⟨RT, "isPresent", "(I)Z"⟩
abbrev bT_isCell : ByteArray := prog_1_method_19_code
def yT_isCell : MethodName := ⟨RT, "isCell", "(II)Z"⟩
abbrev bT_isOnDisk : ByteArray := prog_1_method_20_code
def yT_isOnDisk : MethodName := ⟨RT, "isOnDisk", "(I)Z"⟩
abbrev bT_hasCopy : ByteArray := prog_1_method_21_code
def yT_hasCopy : MethodName := ⟨RT, "hasCopy", "(I)Z"⟩
abbrev bT_hasCopyOn : ByteArray := prog_1_method_22_code
def yT_hasCopyOn : MethodName := ⟨RT, "hasCopyOn", "(II)Z"⟩
abbrev bT_use : ByteArray := prog_1_method_23_code
def yT_use : MethodName := ⟨RT, "use", "(I)V"⟩
abbrev bT_usedSince : ByteArray := prog_1_method_24_code
def yT_usedSince : MethodName := ⟨RT, "usedSince", "(I)I"⟩
abbrev bT_longestUnused : ByteArray := prog_1_method_25_code
def yT_longestUnused : MethodName := ⟨RT, "longestUnused", "(I)I"⟩
abbrev bT_unitsTaken : ByteArray := prog_1_method_26_code
def yT_unitsTaken : MethodName := ⟨RT, "unitsTaken", "()I"⟩
abbrev bT_liveUnits : ByteArray := prog_1_method_27_code
def yT_liveUnits : MethodName := ⟨RT, "liveUnits", "(I)I"⟩
abbrev bT_filesWaiting : ByteArray := prog_1_method_28_code
def yT_filesWaiting : MethodName := ⟨RT, "filesWaiting", "()I"⟩
abbrev bT_stubOldestDouble : ByteArray := prog_1_method_29_code
def yT_stubOldestDouble : MethodName := ⟨RT, "stubOldestDouble", "()Z"⟩
abbrev bT_hasRoom : ByteArray := prog_1_method_30_code
def yT_hasRoom : MethodName := ⟨RT, "hasRoom", "(I)Z"⟩
abbrev bT_makeRoom : ByteArray := prog_1_method_31_code
def yT_makeRoom : MethodName := ⟨RT, "makeRoom", "(I)Z"⟩
abbrev bT_bringToDisk : ByteArray := prog_1_method_32_code
def yT_bringToDisk : MethodName := ⟨RT, "bringToDisk", "(I)Z"⟩
abbrev bT_putCopy : ByteArray := prog_1_method_33_code
def yT_putCopy : MethodName := ⟨RT, "putCopy", "(II)V"⟩
abbrev bT_moveCopy : ByteArray := prog_1_method_34_code
def yT_moveCopy : MethodName := ⟨RT, "moveCopy", "(II)V"⟩
abbrev bT_listedFitBeside : ByteArray := prog_1_method_35_code
def yT_listedFitBeside : MethodName := ⟨RT, "listedFitBeside", "(I)Z"⟩
abbrev bT_listWaitingStubs : ByteArray := prog_1_method_36_code
def yT_listWaitingStubs : MethodName := ⟨RT, "listWaitingStubs", "()V"⟩
abbrev bT_listCopiesOn : ByteArray := prog_1_method_37_code
def yT_listCopiesOn : MethodName := ⟨RT, "listCopiesOn", "(I)V"⟩
abbrev bT_fileWithCopyAt : ByteArray := prog_1_method_38_code
def yT_fileWithCopyAt : MethodName := ⟨RT, "fileWithCopyAt", "(II)I"⟩
abbrev bT_keepWaitingStubs : ByteArray := prog_1_method_39_code
def yT_keepWaitingStubs : MethodName := ⟨RT, "keepWaitingStubs", "()V"⟩
abbrev bP_init : ByteArray := prog_2_method_1_code
def yP_init : MethodName := ⟨RP, "<init>", "(I)V"⟩
abbrev bP_goTo : ByteArray := prog_2_method_2_code
def yP_goTo : MethodName := ⟨RP, "goTo", "(II)V"⟩
abbrev bP_pass : ByteArray := prog_2_method_3_code
def yP_pass : MethodName := ⟨RP, "pass", "(III)V"⟩
abbrev bP_append : ByteArray := prog_2_method_4_code
def yP_append : MethodName := ⟨RP, "append", "(II)I"⟩
abbrev bP_cartridgeFor : ByteArray := prog_2_method_5_code
def yP_cartridgeFor : MethodName := ⟨RP, "cartridgeFor", "(II)I"⟩
abbrev bP_firstFitting : ByteArray := prog_2_method_6_code
def yP_firstFitting : MethodName := ⟨RP, "firstFitting", "([III)I"⟩
abbrev bP_startTrial : ByteArray := prog_2_method_7_code
def yP_startTrial : MethodName := ⟨RP, "startTrial", "()V"⟩
abbrev bP_tryBeside : ByteArray := prog_2_method_8_code
def yP_tryBeside : MethodName := ⟨RP, "tryBeside", "(II)Z"⟩
abbrev bP_replace : ByteArray := prog_2_method_9_code
def yP_replace : MethodName := ⟨RP, "replace", "(I)V"⟩
abbrev bM_init : ByteArray := prog_4_method_1_code
def yM_init : MethodName := ⟨RM, "<init>", "(II)V"⟩
abbrev bM_in : ByteArray := prog_4_method_2_code
def yM_in : MethodName := ⟨RM, "in", "(II)Z"⟩
abbrev bM_there : ByteArray := prog_4_method_3_code
def yM_there : MethodName := ⟨RM, "there", "(I)Z"⟩
abbrev bM_taken : ByteArray := prog_4_method_4_code
def yM_taken : MethodName := ⟨RM, "taken", "()I"⟩
abbrev bM_use : ByteArray := prog_4_method_5_code
def yM_use : MethodName := ⟨RM, "use", "(I)V"⟩
abbrev bM_oldest : ByteArray := prog_4_method_6_code
def yM_oldest : MethodName := ⟨RM, "oldest", "(I)I"⟩
abbrev bM_makeRoom : ByteArray := prog_4_method_7_code
def yM_makeRoom : MethodName := ⟨RM, "makeRoom", "(I)Z"⟩
abbrev bM_move : ByteArray := prog_4_method_8_code
def yM_move : MethodName := ⟨RM, "move", "(III)V"⟩
abbrev bM_bringBack : ByteArray := prog_4_method_9_code
def yM_bringBack : MethodName := ⟨RM, "bringBack", "(I)Z"⟩
abbrev bM_copy : ByteArray := prog_4_method_10_code
def yM_copy : MethodName := ⟨RM, "copy", "(II)Z"⟩
abbrev bM_create : ByteArray := prog_4_method_11_code
def yM_create : MethodName := ⟨RM, "create", "(II)I"⟩
abbrev bM_write : ByteArray := prog_4_method_12_code
def yM_write : MethodName := ⟨RM, "write", "(III)I"⟩
abbrev bM_read : ByteArray := prog_4_method_13_code
def yM_read : MethodName := ⟨RM, "read", "(II)J"⟩
abbrev bM_remove : ByteArray := prog_4_method_14_code
def yM_remove : MethodName := ⟨RM, "remove", "(I)I"⟩
abbrev bM_backUp : ByteArray := prog_4_method_15_code
def yM_backUp : MethodName := ⟨RM, "backUp", "()I"⟩
abbrev bM_tidy : ByteArray := prog_4_method_16_code
def yM_tidy : MethodName := ⟨RM, "tidy", "(II)I"⟩
abbrev bM_waiting : ByteArray := prog_4_method_17_code
def yM_waiting : MethodName := ⟨RM, "waiting", "()I"⟩
abbrev bM_ask : ByteArray := prog_4_method_18_code
def yM_ask : MethodName := ⟨RM, "ask", "(I)I"⟩
abbrev bM_rank : ByteArray := prog_4_method_19_code
def yM_rank : MethodName := ⟨RM, "rank", "(I)I"⟩
abbrev bM_serve : ByteArray := prog_4_method_20_code
def yM_serve : MethodName := ⟨RM, "serve", "()I"⟩
abbrev bM_copied : ByteArray := prog_4_method_21_code
def yM_copied : MethodName := ⟨RM, "copied", "(I)Z"⟩
abbrev bM_next : ByteArray := prog_4_method_22_code
def yM_next : MethodName := ⟨RM, "next", "(II)I"⟩
abbrev bM_canEmpty : ByteArray := prog_4_method_23_code
def yM_canEmpty : MethodName := ⟨RM, "canEmpty", "(I)Z"⟩
abbrev bM_empty : ByteArray := prog_4_method_24_code
def yM_empty : MethodName := ⟨RM, "empty", "(I)I"⟩
abbrev bM_lose : ByteArray := prog_4_method_25_code
def yM_lose : MethodName := ⟨RM, "lose", "(I)I"⟩
abbrev bM_file : ByteArray := prog_4_method_26_code
def yM_file : MethodName := ⟨RM, "file", "(II)I"⟩
abbrev bM_cartridge : ByteArray := prog_4_method_27_code
def yM_cartridge : MethodName := ⟨RM, "cartridge", "(II)I"⟩
abbrev bM_count : ByteArray := prog_4_method_28_code
def yM_count : MethodName := ⟨RM, "count", "(I)I"⟩
abbrev bL_cell : ByteArray := method_2_code
def yL_cell : MethodName := ⟨RL, "cell", "([II)I"⟩
abbrev bL_law : ByteArray := code
