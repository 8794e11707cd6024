section
variable {p : Program} {l : Launch} {e : Env} {R : Room} {s : State} {m : MethodId} {args : Array Value} {below : List Frame} {meth : Method} {c : Code} {H : Heap} {locs : List Loc} {Q : State → Prop} {cc : ByteArray} {pc nL : Nat} {ls : Array Slot} {rest : List Value} {D : va_G} {ca : Nat → ClassId} {ad : Nat → Nat} {A : Nat → Prop} {u : ts_S} {cells slots : Nat}
theorem kT_82 : Cond.constantLong RT 82 (-1000000000000) ∈ uW := by decide +kernel
theorem kT_84 : Cond.constantLong RT 84 (-3000000000000) ∈ uW := by decide +kernel
theorem kT_86 : Cond.constantLong RT 86 (-2000000000000) ∈ uW := by decide +kernel
theorem jm_P_31 (hc : CallFix p m c cc nL s args uW RP) (hsz : ls.size = nL) (h1 : 1 ≤ R.frames) {x : Int32} (h2 : (rest.map fun v => v.category).sum + 13 ≤ R.locals) (hdg : decode cc pc = .ok (.invokestatic 31, 3)) (kk : W p l e R s m args below meth c H locs 0 0 Q (F0 m (pc + 3) ls (.int (if 0 ≤ x then x else 0 - x) :: rest))) : W p l e R s m args below meth c H locs 0 0 Q (F0 m pc ls (.int x :: rest)) :=
  va_mabs hc.1 hc.2.1 (hc.2.2.1.trans hsz.symm) hc.2.2.2.1 (hc.2.2.2.2 (.methodLink RP 31 Lib.Math.abs.name) (by decide +kernel)) (hc.2.2.2.2 (.static Lib.Math.abs.name) (by decide +kernel)) (hc.2.2.2.2 (.initialized "java/lang/Math") (by decide +kernel)) (hc.2.2.2.2 (.code Lib.Math.abs.name Lib.Math.abs.code 1 (some .int)) (uW_in (List.mem_of_getElem? (i := 195) rfl) rfl)) h1 h2 (Nat.zero_le _) (Nat.zero_le _) hdg kk
theorem jc_P_49 (hc : CallFix p m c cc nL s args uW RP) (hw : ts_W tF D ca ad A s H locs u) (hsz : ls.size = nL) (h1 : 1 ≤ R.frames) (h2 : (rest.map fun v => v.category).sum + (nativeFrameWords "java/lang/System" "arraycopy" 5 + 11) ≤ R.locals) (hdg : decode cc pc = .ok (.invokestatic 49, 3)) (kk : ∀ (H1 : Heap) (locs1 : List Loc), ts_W tF D ca ad A s H1 locs1 (ts_c u) → W p l e R s m args below meth c H1 locs1 cells slots Q (F0 m (pc + 3) ls rest)) : W p l e R s m args below meth c H locs cells slots Q (F0 m pc ls (.int 4 :: .int 0 :: .ref (ad 11) :: .int 0 :: .ref (ad 10) :: rest)) := by
  refine va_copyi (ty := .int) hc.1 hc.2.1 (hc.2.2.1.trans hsz.symm) hc.2.2.2.1 (hc.2.2.2.2 (.methodLink RP 49 arraycopyName) (by decide +kernel)) (hc.2.2.2.2 (.native arraycopyName) (by decide +kernel)) (hc.2.2.2.2 (.static arraycopyName) (by decide +kernel)) (hc.2.2.2.2 (.initialized "java/lang/System") (by decide +kernel)) hw.2.2.2.1 hw.1 hw.2.1 hw.2.2.1 10 11 8 9 rfl rfl rfl rfl rfl (by decide) (by decide) (by decide) (by decide) (by decide) (fun _ _ => rfl) h1 h2 hdg (fun H1 locs1 a b c => kk H1 locs1 ?_)
  have e0 : (0 : Int32).toNatClampNeg = 0 := by decide
  have e4 : (4 : Int32).toNatClampNeg = 4 := by decide
  rw [e0, e4] at a b
  exact ⟨cast (congrArg (fun z => va_P D vwCl z H1) (tt_ec ad ca u)) a, cast (congrArg (fun z => va_D A z) (tt_ec ad ca u)) b, c, hw.2.2.2⟩
theorem kM_90 : Cond.constantLong RM 90 (-1000000000000) ∈ uW := by decide +kernel
theorem kM_92 : Cond.constantLong RM 92 (-3000000000000) ∈ uW := by decide +kernel
theorem kM_94 : Cond.constantLong RM 94 (-2000000000000) ∈ uW := by decide +kernel
end
