/-! the pure words: a state is its numbers (by number) and its rows (by number) -/
abbrev ts_S : Type := (Nat → Int32) × (Nat → Nat → Int32)
def ts_p (k : Nat) (v : Int32) (u : ts_S) : ts_S := (va_up u.1 k v, u.2)
def ts_a (j i : Nat) (v : Int32) (u : ts_S) : ts_S := (u.1, va_up u.2 j (upd (u.2 j) i v))
/-- System.arraycopy(ends, 0, trialEnds, 0, 4) -/
def ts_c (u : ts_S) : ts_S := (u.1, va_up u.2 11 (va_cpy (u.2 10) (u.2 11) 0 0 4))
def ts_ix {α : Type} (i : Int32) (n : Nat) (t : Option α) : Option α := if i < 0 ∨ n ≤ i.toNatClampNeg then none else t
def ts_b {β α : Type} (o : Option (β × ts_S)) (k : β → ts_S → Option α) : Option α := match o with
  | none => none
  | some q => k q.1 q.2
def ts_z {α : Type} (v : Int32) (t : Option α) : Option α := if v = 0 ∨ v = 1 then t else none
theorem ts_ix_s {α : Type} {i : Int32} {n : Nat} {t : Option α} {x : α} (h : ts_ix i n t = some x) : vp_in i n ∧ t = some x := by
  unfold ts_ix at h
  by_cases hc : i < 0 ∨ n ≤ i.toNatClampNeg
  · rw [if_pos hc] at h
    cases h
  · rw [if_neg hc] at h
    exact ⟨hc, h⟩
theorem ts_b_s {β α : Type} {o : Option (β × ts_S)} {k : β → ts_S → Option α} {x : α} (h : ts_b o k = some x) : ∃ (r : β) (u : ts_S), o = some (r, u) ∧ k r u = some x := by
  cases o with
  | none => cases h
  | some q => exact ⟨q.1, q.2, rfl, h⟩
theorem ts_nb0 : narrow .boolean (.int 0) = .int 0 := by decide +kernel
theorem ts_nb1 : narrow .boolean (.int 1) = .int 1 := by decide +kernel
theorem ts_z_s {α : Type} {v : Int32} {t : Option α} {x : α} (h : ts_z v t = some x) : narrow .boolean (.int v) = .int v ∧ t = some x := by
  unfold ts_z at h
  by_cases hc : v = 0 ∨ v = 1
  · rw [if_pos hc] at h
    refine ⟨?_, h⟩
    rcases hc with rfl | rfl
    · exact ts_nb0
    · exact ts_nb1
  · rw [if_neg hc] at h
    cases h
theorem ts_if_p {α : Type} {c : Prop} [Decidable c] {a b : Option α} {x : α} (h : c) (e : (if c then a else b) = some x) : a = some x := by
  rw [if_pos h] at e
  exact e
theorem ts_if_n {α : Type} {c : Prop} [Decidable c] {a b : Option α} {x : α} (h : ¬ c) (e : (if c then a else b) = some x) : b = some x := by
  rw [if_neg h] at e
  exact e
/-! the words: those of the tables that a callee may be handed, and the nest's -/
def uW : List Cond := lw_tbl.filter goodWord
def nx_is : Cond → Bool
  | .fieldLinkNest .. => true
  | .methodLinkNest .. => true
  | _ => false
def nW : List Cond := lw_tbl.filter nx_is
def nx (U : State) : Prop := ∀ w ∈ nW, va_Nw w U
theorem nx_warm {s U : State} (hW : s.WarmedH U.vm) (h : nx s) : nx U := by
  intro w hw
  have h1 := h w hw
  have h2 := (List.mem_filter.mp hw).2
  cases w <;> first | exact va_Nw.warmF hW h1 | exact va_Nw.warmM hW h1 | exact absurd h2 (by decide) | (cases h2; done)
theorem nx_same {u U : State} (hv : u.vm = U.vm) (h : nx u) : nx U := by
  intro w hw
  have h1 := h w hw
  have h2 := (List.mem_filter.mp hw).2
  cases w <;> first | exact va_Nw.same rfl hv h1 | exact absurd h2 (by decide) | (cases h2; done)
theorem uW_good : ∀ w ∈ uW, (w.onTables && w.keeps) = true ∨ ∃ ty, w = .arrayClass ty := fun w h => good_of_word (List.mem_filter.mp h).2
theorem uW_hts {args : Array Value} {s : State} (hts : ∀ w ∈ lw_tbl, w.before args s = true) : ∀ w ∈ uW, w.before args s = true := fun w h => hts w (List.mem_filter.mp h).1
theorem uW_in {w : Cond} (h : w ∈ lw_tbl) (hg : goodWord w = true) : w ∈ uW := List.mem_filter.mpr ⟨h, hg⟩
theorem gd_N {y : MethodName} {b : ByteArray} {n : Nat} {r : Option FieldType} (h5 : Cond.code y b n r ∈ uW) : GoodIn uW (.code y b n r :: uW) := by
  intro w hw
  rcases List.mem_cons.mp hw with rfl | hw
  · exact ⟨h5, uW_good _ h5⟩
  · exact ⟨hw, uW_good _ hw⟩
theorem gd_V {own : String} {idx : Nat} {C : String} {y : MethodName} {b : ByteArray} {n : Nat} {r : Option FieldType} (h1 : Cond.methodLink own idx y ∈ uW) (h2 : Cond.instanceMethod y ∈ uW) (h3 : Cond.selects C y y ∈ uW) (h4 : Cond.initialized C ∈ uW) (h5 : Cond.code y b n r ∈ uW) : GoodIn uW (wsV own idx C y (.code y b n r :: uW)) := by
  intro w hw
  rcases List.mem_append.mp hw with hw | hw
  · have : w ∈ uW := by
      rcases List.mem_cons.mp hw with rfl | hw
      · exact h1
      rcases List.mem_cons.mp hw with rfl | hw
      · exact h2
      rcases List.mem_cons.mp hw with rfl | hw
      · exact h3
      rcases List.mem_cons.mp hw with rfl | hw
      · exact h4
      · cases hw
    exact ⟨this, uW_good _ this⟩
  · exact gd_N h5 w hw
theorem gd_S {own : String} {idx : Nat} {y : MethodName} {b : ByteArray} {n : Nat} {r : Option FieldType} (h1 : Cond.methodLink own idx y ∈ uW) (h2 : Cond.static y ∈ uW) (h3 : Cond.initialized own ∈ uW) (h5 : Cond.code y b n r ∈ uW) : GoodIn uW (wsS own idx y (.code y b n r :: uW)) := by
  intro w hw
  rcases List.mem_append.mp hw with hw | hw
  · have : w ∈ uW := by
      rcases List.mem_cons.mp hw with rfl | hw
      · exact h1
      rcases List.mem_cons.mp hw with rfl | hw
      · exact h2
      rcases List.mem_cons.mp hw with rfl | hw
      · exact h3
      · cases hw
    exact ⟨this, uW_good _ this⟩
  · exact gd_N h5 w hw
/-! worlds: a family of cells, the contracts over it, entry, ends and calls -/
abbrev ts_F : Type := ((Nat → Nat) → (Nat → ClassId) → ts_S → va_W) × ((Nat → ClassId) → List (ClassId × FieldType))
def ts_W (F : ts_F) (D : va_G) (ca : Nat → ClassId) (ad : Nat → Nat) (A : Nat → Prop) (s : State) (H : Heap) (locs : List Loc) (u : ts_S) : Prop :=
  va_P D vwCl (F.1 ad ca u) H ∧ va_D A (F.1 ad ca u) ∧ va_S A s.heap H locs ∧ va_K D vwCl (F.2 ca) s ∧ ∀ q : Nat, s.heap.size ≤ q → A q
def ts_pre (F : ts_F) (D : va_G) (ca : Nat → ClassId) (ad : Nat → Nat) (sz : Nat) (u : ts_S) (U : State) : Prop :=
  U.heap.size = sz ∧ va_P D vwCl (F.1 ad ca u) U.heap ∧ va_K D vwCl (F.2 ca) U ∧ va_D (fun _ => True) (F.1 ad ca u) ∧ nx U
def ts_post (F : ts_F) (D : va_G) (ca : Nat → ClassId) (ad : Nat → Nat) (A : Nat → Prop) (v : ts_S) (t : State) : Prop :=
  va_P D vwCl (F.1 ad ca v) t.heap ∧ va_K D vwCl (F.2 ca) t ∧ va_D A (F.1 ad ca v)
def ts_Ci (F : ts_F) (l : Launch) (y : MethodName) (ws : List Cond) (rm : Room) (av : (Nat → Nat) → List Value) (u : ts_S) (r0 : Int32) (u0 : ts_S) : Prop :=
  ∀ (D : va_G) (ca : Nat → ClassId) (ad : Nat → Nat) (sz : Nat), Met l y ws rm (va_Pc (av ad) (ts_pre F D ca ad sz u)) (va_Qi (fun r v => r = r0 ∧ v = u0) (ts_post F D ca ad (va_A (F.1 ad ca u) sz)) (va_A (F.1 ad ca u) sz)) 0 0 (va_A (F.1 ad ca u) sz)
def ts_Cl (F : ts_F) (l : Launch) (y : MethodName) (ws : List Cond) (rm : Room) (av : (Nat → Nat) → List Value) (u : ts_S) (r0 : Int64) (u0 : ts_S) : Prop :=
  ∀ (D : va_G) (ca : Nat → ClassId) (ad : Nat → Nat) (sz : Nat), Met l y ws rm (va_Pc (av ad) (ts_pre F D ca ad sz u)) (va_Ql (fun r v => r = r0 ∧ v = u0) (ts_post F D ca ad (va_A (F.1 ad ca u) sz)) (va_A (F.1 ad ca u) sz)) 0 0 (va_A (F.1 ad ca u) sz)
def ts_Cv (F : ts_F) (l : Launch) (y : MethodName) (ws : List Cond) (rm : Room) (av : (Nat → Nat) → List Value) (u : ts_S) (u0 : ts_S) : Prop :=
  ∀ (D : va_G) (ca : Nat → ClassId) (ad : Nat → Nat) (sz : Nat), Met l y ws rm (va_Pc (av ad) (ts_pre F D ca ad sz u)) (va_Qv (fun v => v = u0) (ts_post F D ca ad (va_A (F.1 ad ca u) sz)) (va_A (F.1 ad ca u) sz)) 0 0 (va_A (F.1 ad ca u) sz)
theorem ts_blind {F : ts_F} {D : va_G} {ca : Nat → ClassId} {ad : Nat → Nat} {sz : Nat} {u : ts_S} {av : List Value} : FrameBlind (va_Pc av (ts_pre F D ca ad sz u)) := by
  intro a U g mk q
  obtain ⟨q0, q1, qP, qK, qD, qN⟩ := q
  exact ⟨q0, q1, qP, va_K.moved (u := U) (U := U.calling g mk a) (Vm.Alike.refl U.vm) qK, qD, nx_same (u := U) (U := U.calling g mk a) rfl qN⟩
theorem ts_start {F : ts_F} {D : va_G} {ca : Nat → ClassId} {ad : Nat → Nat} {A : Nat → Prop} {s : State} {H : Heap} {locs : List Loc} {u : ts_S} {av : List Value} {a : Array Value} (ha : a = av.toArray) (hn : nx s) (hw : ts_W F D ca ad A s H locs u) : ∀ U : State, U.heap = H → s.WarmedH U.vm → va_Pc av (ts_pre F D ca ad H.size u) a U :=
  fun U hU hW => ⟨ha, by rw [hU], by rw [hU]; exact hw.1, va_K.moved hW.alike hw.2.2.2.1, hw.2.1.weaken (fun _ _ _ _ => trivial), nx_warm hW hn⟩
theorem ts_hF {F : ts_F} {D : va_G} {ca : Nat → ClassId} {ad : Nat → Nat} {A : Nat → Prop} {s : State} {H : Heap} {locs : List Loc} {u : ts_S} (hw : ts_W F D ca ad A s H locs u) : ∀ q, va_A (F.1 ad ca u) H.size q → A q := by
  rintro q (⟨k, e, hk⟩ | h)
  · exact hw.2.1.2 k _ hk
  · exact hw.2.2.2.2 q (Nat.le_trans hw.2.2.1.1 h)
section
variable {p : Program} {l : Launch} {e : Env} {R : Room} {s : State} {m : MethodId} {args : Array Value} {below : List Frame} {meth : Method} {c : Code} {H : Heap} {locs : List Loc} {Q : State → Prop} {cc : ByteArray} {pc nL : Nat} {ls : Array Slot} {rest : List Value} {F : ts_F} {D : va_G} {ca : Nat → ClassId} {ad : Nat → Nat} {A : Nat → Prop} {u u0 : ts_S}
theorem ts_in_i (F : ts_F) (l : Launch) {y : MethodName} {bytes : ByteArray} {maxL : Nat} {ty : FieldType} {rm : Room} {av : (Nat → Nat) → List Value} {u : ts_S} {r0 : Int32} {u0 : ts_S} (hy : plainName y.cls = true)
    (body : ∀ (p : Program) (e : Env) (s : State) (m : MethodId) (args : Array Value) (below : List Frame) (meth : Method) (c : Code) (D : va_G) (ca : Nat → ClassId) (ad : Nat → Nat) (A : Nat → Prop), CallFix p m c bytes maxL s args uW y.cls → nx s → meth.sig.returnType = some ty → meth.locks = false → ts_W F D ca ad A s s.heap [] u → W p l e rm s m args below meth c s.heap [] 0 0 (MQ below (va_Qi (fun r v => r = r0 ∧ v = u0) (ts_post F D ca ad A) A) args s 0 0 A) (entryFrame m (av ad).toArray maxL)) :
    ts_Ci F l y (.code y bytes maxL (some ty) :: uW) rm av u r0 u0 := by
  intro D ca ad sz
  refine Met.ofW (cc := bytes) (maxL := maxL) (ret := some ty) hy rfl ?_
  intro p e s m args below meth c s₁ B hml hv
  obtain ⟨ha, hsz, hP, hK, hD0, hn⟩ := hv
  have hts := atoms_spec (ws := .code y bytes maxL (some ty) :: uW) B.pre
  subst hsz
  have K := body p e s m args below meth c D ca ad (va_A (F.1 ad ca u) s.heap.size) ⟨B.exec, B.bytes, hml, findClass_of_methodNamed B.named, fun w h => hts w (List.mem_cons_of_mem _ h)⟩ hn B.returns B.notSynchronized ⟨hP, hD0.self (sz := s.heap.size), va_S.rf, hK, fun q h => Or.inr h⟩
  rw [← ha] at K
  exact K
theorem ts_in_l (F : ts_F) (l : Launch) {y : MethodName} {bytes : ByteArray} {maxL : Nat} {ty : FieldType} {rm : Room} {av : (Nat → Nat) → List Value} {u : ts_S} {r0 : Int64} {u0 : ts_S} (hy : plainName y.cls = true)
    (body : ∀ (p : Program) (e : Env) (s : State) (m : MethodId) (args : Array Value) (below : List Frame) (meth : Method) (c : Code) (D : va_G) (ca : Nat → ClassId) (ad : Nat → Nat) (A : Nat → Prop), CallFix p m c bytes maxL s args uW y.cls → nx s → meth.sig.returnType = some ty → meth.locks = false → ts_W F D ca ad A s s.heap [] u → W p l e rm s m args below meth c s.heap [] 0 0 (MQ below (va_Ql (fun r v => r = r0 ∧ v = u0) (ts_post F D ca ad A) A) args s 0 0 A) (entryFrame m (av ad).toArray maxL)) :
    ts_Cl F l y (.code y bytes maxL (some ty) :: uW) rm av u r0 u0 := by
  intro D ca ad sz
  refine Met.ofW (cc := bytes) (maxL := maxL) (ret := some ty) hy rfl ?_
  intro p e s m args below meth c s₁ B hml hv
  obtain ⟨ha, hsz, hP, hK, hD0, hn⟩ := hv
  have hts := atoms_spec (ws := .code y bytes maxL (some ty) :: uW) B.pre
  subst hsz
  have K := body p e s m args below meth c D ca ad (va_A (F.1 ad ca u) s.heap.size) ⟨B.exec, B.bytes, hml, findClass_of_methodNamed B.named, fun w h => hts w (List.mem_cons_of_mem _ h)⟩ hn B.returns B.notSynchronized ⟨hP, hD0.self (sz := s.heap.size), va_S.rf, hK, fun q h => Or.inr h⟩
  rw [← ha] at K
  exact K
theorem ts_in_v (F : ts_F) (l : Launch) {y : MethodName} {bytes : ByteArray} {maxL : Nat} {rm : Room} {av : (Nat → Nat) → List Value} {u : ts_S} {u0 : ts_S} (hy : plainName y.cls = true)
    (body : ∀ (p : Program) (e : Env) (s : State) (m : MethodId) (args : Array Value) (below : List Frame) (meth : Method) (c : Code) (D : va_G) (ca : Nat → ClassId) (ad : Nat → Nat) (A : Nat → Prop), CallFix p m c bytes maxL s args uW y.cls → nx s → meth.sig.returnType = none → meth.locks = false → ts_W F D ca ad A s s.heap [] u → W p l e rm s m args below meth c s.heap [] 0 0 (MQ below (va_Qv (fun v => v = u0) (ts_post F D ca ad A) A) args s 0 0 A) (entryFrame m (av ad).toArray maxL)) :
    ts_Cv F l y (.code y bytes maxL none :: uW) rm av u u0 := by
  intro D ca ad sz
  refine Met.ofW (cc := bytes) (maxL := maxL) (ret := none) hy rfl ?_
  intro p e s m args below meth c s₁ B hml hv
  obtain ⟨ha, hsz, hP, hK, hD0, hn⟩ := hv
  have hts := atoms_spec (ws := .code y bytes maxL none :: uW) B.pre
  subst hsz
  have K := body p e s m args below meth c D ca ad (va_A (F.1 ad ca u) s.heap.size) ⟨B.exec, B.bytes, hml, findClass_of_methodNamed B.named, fun w h => hts w (List.mem_cons_of_mem _ h)⟩ hn B.returns B.notSynchronized ⟨hP, hD0.self (sz := s.heap.size), va_S.rf, hK, fun q h => Or.inr h⟩
  rw [← ha] at K
  exact K
theorem ts_iret {ty : FieldType} {v r0 : Int32} (hx : p.tables.exec = Jvm.exec) (hb : c.code = cc) (hr : meth.sig.returnType = some ty) (hlk : meth.locks = false) (hn : narrow ty (.int v) = .int v) (hw : ts_W F D ca ad A s H locs u) (hd : some (v, u) = some (r0, u0)) (hdg : decode cc pc = .ok (.ireturn, 1)) : W p l e R s m args below meth c H locs 0 0 (MQ below (va_Qi (fun r v => r = r0 ∧ v = u0) (ts_post F D ca ad A) A) args s 0 0 A) (F0 m pc ls [.int v]) :=
  W.zret hx hb hr hn (fun t ht hW => ⟨⟨v, u, rfl, ⟨congrArg Prod.fst (Option.some.inj hd), congrArg Prod.snd (Option.some.inj hd)⟩, by rw [ht]; exact hw.1, va_K.moved hW.alike hw.2.2.2.1, hw.2.1⟩, hw.2.2.1.F ht⟩) hw.2.2.1.2.2 hdg hlk
theorem ts_lret {v r0 : Int64} (hx : p.tables.exec = Jvm.exec) (hb : c.code = cc) (hr : meth.sig.returnType = some .long) (hlk : meth.locks = false) (hw : ts_W F D ca ad A s H locs u) (hd : some (v, u) = some (r0, u0)) (hdg : decode cc pc = .ok (.lreturn, 1)) : W p l e R s m args below meth c H locs 0 0 (MQ below (va_Ql (fun r v => r = r0 ∧ v = u0) (ts_post F D ca ad A) A) args s 0 0 A) (F0 m pc ls [.long v]) :=
  W.lret hx hb hr (fun t ht hW => ⟨⟨v, u, rfl, ⟨congrArg Prod.fst (Option.some.inj hd), congrArg Prod.snd (Option.some.inj hd)⟩, by rw [ht]; exact hw.1, va_K.moved hW.alike hw.2.2.2.1, hw.2.1⟩, hw.2.2.1.F ht⟩) hw.2.2.1.2.2 hdg hlk
theorem ts_vret {v r0 : Int32} (hx : p.tables.exec = Jvm.exec) (hb : c.code = cc) (hr : meth.sig.returnType = none) (hlk : meth.locks = false) (hw : ts_W F D ca ad A s H locs u) (hd : some (v, u) = some (r0, u0)) (hdg : decode cc pc = .ok (.return_, 1)) : W p l e R s m args below meth c H locs 0 0 (MQ below (va_Qv (fun v => v = u0) (ts_post F D ca ad A) A) args s 0 0 A) (F0 m pc ls []) :=
  W.vret hx hb hr (fun t ht hW => ⟨⟨u, rfl, congrArg Prod.snd (Option.some.inj hd), by rw [ht]; exact hw.1, va_K.moved hW.alike hw.2.2.2.1, hw.2.1⟩, hw.2.2.1.F ht⟩) hw.2.2.1.2.2 hdg hlk
theorem ts_callVi {own C : String} {y : MethodName} {bytes : ByteArray} {maxL index n b : Nat} {ret : Option FieldType} {rm : Room} {av : (Nat → Nat) → List Value} {As : List Value} {r0 : Int32} (hc : CallFix p m c cc nL s args uW own) (hn : nx s) (hw : ts_W F D ca ad A s H locs u) (hM : ts_Ci F l y (.code y bytes maxL ret :: uW) rm av u r0 u0) (hav : av ad = .ref b :: As)
    (cw : CallW R s args own C index y bytes maxL ret (.code y bytes maxL ret :: uW) rm 0 0 n) (hb : ∃ cell : Cell, H[b]? = some cell ∧ cell.vm.isStatics = false ∧ s.vm.findClass C = some cell.cls) (hlen : As.length = n) (hsz : ls.size = nL) (hrest : (rest.map fun v => v.category).sum ≤ 8) (hdg : decode cc pc = .ok (.invokevirtual index, 3))
    (kk : ∀ (H1 : Heap) (locs1 : List Loc), ts_W F D ca ad A s H1 locs1 u0 → W p l e R s m args below meth c H1 locs1 0 0 Q (F0 m (pc + 3) ls (.int r0 :: rest))) : W p l e R s m args below meth c H locs 0 0 Q (F0 m pc ls (As.reverse ++ .ref b :: rest)) := by
  refine va_calli (va_runV (As := As) (rest := rest) hc (hM D ca ad H.size) cw ⟨ts_blind, hb, ts_start (by rw [hav]) hn hw⟩ rfl hlen hsz rfl (lv_room hrest) hdg ⟨Nat.zero_le _, Nat.zero_le _⟩) hw.2.2.1 (fun q _ h => ts_hF hw q h) (ts_hF hw) (fun r v t H1 locs1 ht hvm hp hB hz1 hk1 hS => ?_)
  obtain ⟨rfl, rfl⟩ := hp
  obtain ⟨hP1, -, hD1⟩ := hB
  rw [ht] at hP1
  exact kk H1 locs1 ⟨hP1, hD1.weaken (fun _ q _ h => ts_hF hw q.1 h), hS, hw.2.2.2⟩
theorem ts_callVv {own C : String} {y : MethodName} {bytes : ByteArray} {maxL index n b : Nat} {ret : Option FieldType} {rm : Room} {av : (Nat → Nat) → List Value} {As : List Value} (hc : CallFix p m c cc nL s args uW own) (hn : nx s) (hw : ts_W F D ca ad A s H locs u) (hM : ts_Cv F l y (.code y bytes maxL ret :: uW) rm av u u0) (hav : av ad = .ref b :: As)
    (cw : CallW R s args own C index y bytes maxL ret (.code y bytes maxL ret :: uW) rm 0 0 n) (hb : ∃ cell : Cell, H[b]? = some cell ∧ cell.vm.isStatics = false ∧ s.vm.findClass C = some cell.cls) (hlen : As.length = n) (hsz : ls.size = nL) (hrest : (rest.map fun v => v.category).sum ≤ 8) (hdg : decode cc pc = .ok (.invokevirtual index, 3))
    (kk : ∀ (H1 : Heap) (locs1 : List Loc), ts_W F D ca ad A s H1 locs1 u0 → W p l e R s m args below meth c H1 locs1 0 0 Q (F0 m (pc + 3) ls rest)) : W p l e R s m args below meth c H locs 0 0 Q (F0 m pc ls (As.reverse ++ .ref b :: rest)) := by
  refine va_callv (va_runV (As := As) (rest := rest) hc (hM D ca ad H.size) cw ⟨ts_blind, hb, ts_start (by rw [hav]) hn hw⟩ rfl hlen hsz rfl (lv_room hrest) hdg ⟨Nat.zero_le _, Nat.zero_le _⟩) hw.2.2.1 (fun q _ h => ts_hF hw q h) (ts_hF hw) (fun v t H1 locs1 ht hvm hp hB hz1 hk1 hS => ?_)
  subst hp
  obtain ⟨hP1, -, hD1⟩ := hB
  rw [ht] at hP1
  exact kk H1 locs1 ⟨hP1, hD1.weaken (fun _ q _ h => ts_hF hw q.1 h), hS, hw.2.2.2⟩
theorem ts_callNi {own C host : String} {y : MethodName} {bytes : ByteArray} {maxL index n b : Nat} {ret : Option FieldType} {rm : Room} {av : (Nat → Nat) → List Value} {As : List Value} {r0 : Int32} (hc : CallFix p m c cc nL s args uW own) (hn : nx s) (hw : ts_W F D ca ad A s H locs u) (hM : ts_Ci F l y (.code y bytes maxL ret :: uW) rm av u r0 u0) (hav : av ad = .ref b :: As)
    (cw : va_CN R s args own index y host bytes maxL ret (.code y bytes maxL ret :: uW) rm 0 0 n ∧ (Cond.instanceMethod y).before args s = true ∧ (Cond.selects C y y).before args s = true) (hb : ∃ cell : Cell, H[b]? = some cell ∧ cell.vm.isStatics = false ∧ s.vm.findClass C = some cell.cls) (hlen : As.length = n) (hsz : ls.size = nL) (hrest : (rest.map fun v => v.category).sum ≤ 8) (hdg : decode cc pc = .ok (.invokevirtual index, 3))
    (kk : ∀ (H1 : Heap) (locs1 : List Loc), ts_W F D ca ad A s H1 locs1 u0 → W p l e R s m args below meth c H1 locs1 0 0 Q (F0 m (pc + 3) ls (.int r0 :: rest))) : W p l e R s m args below meth c H locs 0 0 Q (F0 m pc ls (As.reverse ++ .ref b :: rest)) := by
  refine va_calli (va_runVN (As := As) (rest := rest) hc (hM D ca ad H.size) cw ⟨ts_blind, hb, ts_start (by rw [hav]) hn hw⟩ rfl hlen hsz rfl (lv_room hrest) hdg ⟨Nat.zero_le _, Nat.zero_le _⟩) hw.2.2.1 (fun q _ h => ts_hF hw q h) (ts_hF hw) (fun r v t H1 locs1 ht hvm hp hB hz1 hk1 hS => ?_)
  obtain ⟨rfl, rfl⟩ := hp
  obtain ⟨hP1, -, hD1⟩ := hB
  rw [ht] at hP1
  exact kk H1 locs1 ⟨hP1, hD1.weaken (fun _ q _ h => ts_hF hw q.1 h), hS, hw.2.2.2⟩
theorem ts_callNv {own C host : String} {y : MethodName} {bytes : ByteArray} {maxL index n b : Nat} {ret : Option FieldType} {rm : Room} {av : (Nat → Nat) → List Value} {As : List Value} (hc : CallFix p m c cc nL s args uW own) (hn : nx s) (hw : ts_W F D ca ad A s H locs u) (hM : ts_Cv F l y (.code y bytes maxL ret :: uW) rm av u u0) (hav : av ad = .ref b :: As)
    (cw : va_CN R s args own index y host bytes maxL ret (.code y bytes maxL ret :: uW) rm 0 0 n ∧ (Cond.instanceMethod y).before args s = true ∧ (Cond.selects C y y).before args s = true) (hb : ∃ cell : Cell, H[b]? = some cell ∧ cell.vm.isStatics = false ∧ s.vm.findClass C = some cell.cls) (hlen : As.length = n) (hsz : ls.size = nL) (hrest : (rest.map fun v => v.category).sum ≤ 8) (hdg : decode cc pc = .ok (.invokevirtual index, 3))
    (kk : ∀ (H1 : Heap) (locs1 : List Loc), ts_W F D ca ad A s H1 locs1 u0 → W p l e R s m args below meth c H1 locs1 0 0 Q (F0 m (pc + 3) ls rest)) : W p l e R s m args below meth c H locs 0 0 Q (F0 m pc ls (As.reverse ++ .ref b :: rest)) := by
  refine va_callv (va_runVN (As := As) (rest := rest) hc (hM D ca ad H.size) cw ⟨ts_blind, hb, ts_start (by rw [hav]) hn hw⟩ rfl hlen hsz rfl (lv_room hrest) hdg ⟨Nat.zero_le _, Nat.zero_le _⟩) hw.2.2.1 (fun q _ h => ts_hF hw q h) (ts_hF hw) (fun v t H1 locs1 ht hvm hp hB hz1 hk1 hS => ?_)
  subst hp
  obtain ⟨hP1, -, hD1⟩ := hB
  rw [ht] at hP1
  exact kk H1 locs1 ⟨hP1, hD1.weaken (fun _ q _ h => ts_hF hw q.1 h), hS, hw.2.2.2⟩
theorem ts_callSi {own : String} {y : MethodName} {bytes : ByteArray} {maxL index n : Nat} {ret : Option FieldType} {rm : Room} {av : (Nat → Nat) → List Value} {As : List Value} {r0 : Int32} (hc : CallFix p m c cc nL s args uW own) (hn : nx s) (hw : ts_W F D ca ad A s H locs u) (hM : ts_Ci F l y (.code y bytes maxL ret :: uW) rm av u r0 u0) (hav : av ad = As)
    (cw : CallB R s args own index y bytes maxL ret (.code y bytes maxL ret :: uW) rm 0 0 n ∧ (Cond.static y).before args s = true) (hlen : As.length = n) (hsz : ls.size = nL) (hrest : (rest.map fun v => v.category).sum ≤ 8) (hdg : decode cc pc = .ok (.invokestatic index, 3))
    (kk : ∀ (H1 : Heap) (locs1 : List Loc), ts_W F D ca ad A s H1 locs1 u0 → W p l e R s m args below meth c H1 locs1 0 0 Q (F0 m (pc + 3) ls (.int r0 :: rest))) : W p l e R s m args below meth c H locs 0 0 Q (F0 m pc ls (As.reverse ++ rest)) := by
  refine va_calli (va_runS (As := As) (rest := rest) hc (hM D ca ad H.size) cw ⟨ts_blind, ts_start (by rw [hav]) hn hw⟩ rfl hlen hsz rfl (lv_room hrest) hdg ⟨Nat.zero_le _, Nat.zero_le _⟩) hw.2.2.1 (fun q _ h => ts_hF hw q h) (ts_hF hw) (fun r v t H1 locs1 ht hvm hp hB hz1 hk1 hS => ?_)
  obtain ⟨rfl, rfl⟩ := hp
  obtain ⟨hP1, -, hD1⟩ := hB
  rw [ht] at hP1
  exact kk H1 locs1 ⟨hP1, hD1.weaken (fun _ q _ h => ts_hF hw q.1 h), hS, hw.2.2.2⟩
end

