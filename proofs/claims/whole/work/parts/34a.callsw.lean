section CALLSW
variable {p : Program} {l : Launch} {e : Env} {R : Room} {s : State} {m : MethodId} {args : Array Value} {below : List Frame} {meth : Method} {c : Code} {H : Heap} {locs : List Loc} {cells slots : Nat} {Q : State → Prop}
variable {g : G9} {A : Nat → Prop} {cc : ByteArray} {n : Nat} {own : String} {ws : va_W} {pc : Nat} {ls : Array Slot} {rest : List Value} {idx : Nat}
/-- an instance method of class C is called: it returns an int -/
theorem callVIw {y : MethodName} {cy : ByteArray} {ny f0 k0 na b : Nat} {ry : FieldType} {C : String} {As av : List Value} {wc w1 wr ws2 : va_W} {r : Int32}
    (M : MC p s m args meth c cc n own g A) (hls : ls.size = n) (hW : WD g s A ws H locs) (hM : CtI l g y cy ny ry f0 k0 av wc r w1) (hav : av = .ref b :: As)
    (isC isR pm : List Nat) (hC : isC.map (fun i => ws[i]?) = wc.map some) (hCn : va_nd isC = true) (hR : isR.map (fun i => ws[i]?) = wr.map some) (hn : va_nd isR = true) (hdis : isR.all (fun i => !isC.contains i) = true) (hpn : va_nd pm = true) (hpm : pm.map (fun i => (wr ++ w1)[i]?) = ws2.map some)
    (qb ci : Nat) {fs : List Value} {r0 : vw_C} (hq : ws[qb]? = some (b, .inr (ci, fs))) (hc : vwCl[ci]? = some r0) (hCr : r0.1 = C)
    (hcode : Cond.code y cy ny (some ry) ∈ U0) (hl : Cond.methodLink own idx y ∈ U0) (hin : Cond.instanceMethod y ∈ U0) (hsel : Cond.selects C y y ∈ U0) (hini : Cond.initialized y.cls ∈ U0)
    (hd : y.cls ≠ "java/lang/invoke/MethodHandle" ∧ y.cls ≠ "java/lang/invoke/VarHandle" ∧ (parseMethodDescriptor y.desc).map (fun d => d.parameters.length) = some na) (hna : As.length = na)
    (hRm : f0 + 1 ≤ R.frames ∧ 8 + (ny + 11) + k0 ≤ R.locals) (hrest : (rest.map fun v => v.category).sum ≤ 8) (hcs : cells ≤ R.cells ∧ slots ≤ R.slots) (hdg : decode cc pc = .ok (.invokevirtual idx, 3))
    (kk : ∀ (H1 : Heap) (locs1 : List Loc), WD g s A ws2 H1 locs1 → W p l e R s m args below meth c H1 locs1 cells slots Q (F0 m (pc + 3) ls (.int r :: rest))) : W p l e R s m args below meth c H locs cells slots Q (F0 m pc ls (As.reverse ++ .ref b :: rest)) := by
  subst hav
  subst hCr
  have hF := va_free (wc := wc) hW.2.1 hW.2.2 M.2.2.2.2.2.1 isC hC
  refine va_calli (A1 := va_A wc H.size) (va_runV (As := As) (rest := rest) ⟨M.1, M.2.1, M.2.2.1, M.2.2.2.1, M.2.2.2.2.1⟩ (hM H.size) (cw := ⟨u0_B M hcode hini hl hd hRm, M.2.2.2.2.1 _ hin, M.2.2.2.2.1 _ hsel⟩) ⟨pre9_blind, va_recv M.2.2.2.2.2.2.1 hW.1 hc hq, pre9_of M hW isC hC hCn⟩ rfl hna hls rfl (lv_room hrest) hdg hcs) hW.2.2 (fun q _ h => hF q h) hF (fun r' u t H1 locs1 ht hvm hw hB hz1 hk1 hS1 => ?_)
  subst hw
  obtain ⟨hP1, hD1⟩ := hB
  rw [ht] at hP1
  exact kk H1 locs1 (join9 M hW isC isR pm hC hR hn hdis hpn hpm hk1 hP1 hD1 hS1)
theorem callVVw {y : MethodName} {cy : ByteArray} {ny f0 k0 na b : Nat} {C : String} {As av : List Value} {wc w1 wr ws2 : va_W}
    (M : MC p s m args meth c cc n own g A) (hls : ls.size = n) (hW : WD g s A ws H locs) (hM : CtV l g y cy ny f0 k0 av wc w1) (hav : av = .ref b :: As)
    (isC isR pm : List Nat) (hC : isC.map (fun i => ws[i]?) = wc.map some) (hCn : va_nd isC = true) (hR : isR.map (fun i => ws[i]?) = wr.map some) (hn : va_nd isR = true) (hdis : isR.all (fun i => !isC.contains i) = true) (hpn : va_nd pm = true) (hpm : pm.map (fun i => (wr ++ w1)[i]?) = ws2.map some)
    (qb ci : Nat) {fs : List Value} {r0 : vw_C} (hq : ws[qb]? = some (b, .inr (ci, fs))) (hc : vwCl[ci]? = some r0) (hCr : r0.1 = C)
    (hcode : Cond.code y cy ny none ∈ U0) (hl : Cond.methodLink own idx y ∈ U0) (hin : Cond.instanceMethod y ∈ U0) (hsel : Cond.selects C y y ∈ U0) (hini : Cond.initialized y.cls ∈ U0)
    (hd : y.cls ≠ "java/lang/invoke/MethodHandle" ∧ y.cls ≠ "java/lang/invoke/VarHandle" ∧ (parseMethodDescriptor y.desc).map (fun d => d.parameters.length) = some na) (hna : As.length = na)
    (hRm : f0 + 1 ≤ R.frames ∧ 8 + (ny + 11) + k0 ≤ R.locals) (hrest : (rest.map fun v => v.category).sum ≤ 8) (hcs : cells ≤ R.cells ∧ slots ≤ R.slots) (hdg : decode cc pc = .ok (.invokevirtual idx, 3))
    (kk : ∀ (H1 : Heap) (locs1 : List Loc), WD g s A ws2 H1 locs1 → W p l e R s m args below meth c H1 locs1 cells slots Q (F0 m (pc + 3) ls rest)) : W p l e R s m args below meth c H locs cells slots Q (F0 m pc ls (As.reverse ++ .ref b :: rest)) := by
  subst hav
  subst hCr
  have hF := va_free (wc := wc) hW.2.1 hW.2.2 M.2.2.2.2.2.1 isC hC
  refine va_callv (A1 := va_A wc H.size) (va_runV (As := As) (rest := rest) ⟨M.1, M.2.1, M.2.2.1, M.2.2.2.1, M.2.2.2.2.1⟩ (hM H.size) (cw := ⟨u0_B M hcode hini hl hd hRm, M.2.2.2.2.1 _ hin, M.2.2.2.2.1 _ hsel⟩) ⟨pre9_blind, va_recv M.2.2.2.2.2.2.1 hW.1 hc hq, pre9_of M hW isC hC hCn⟩ rfl hna hls rfl (lv_room hrest) hdg hcs) hW.2.2 (fun q _ h => hF q h) hF (fun u t H1 locs1 ht hvm hw hB hz1 hk1 hS1 => ?_)
  obtain ⟨hP1, hD1⟩ := hB
  rw [ht] at hP1
  exact kk H1 locs1 (join9 M hW isC isR pm hC hR hn hdis hpn hpm hk1 hP1 hD1 hS1)
/-- the law calls one of them -/
theorem callWw {y : MethodName} {cy : ByteArray} {ny f0 k0 na : Nat} {hh : List (Nat × Nat × Nat × Nat)} {As : List Value} {wc w1 wr ws2 : va_W} {r : Int32}
    (M : MC p s m args meth c cc n own g A) (hls : ls.size = n) (hW : WD g s A ws H locs) (hM : CtW l g y cy ny hh f0 k0 As wc r w1)
    (isC isR pm : List Nat) (hC : isC.map (fun i => ws[i]?) = wc.map some) (hCn : va_nd isC = true) (hR : isR.map (fun i => ws[i]?) = wr.map some) (hn : va_nd isR = true) (hdis : isR.all (fun i => !isC.contains i) = true) (hpn : va_nd pm = true) (hpm : pm.map (fun i => (wr ++ w1)[i]?) = ws2.map some)
    (hcode : Cond.codeWith y cy ny (some .int) hh ∈ U0) (hl : Cond.methodLink own idx y ∈ U0) (hst : Cond.static y ∈ U0) (hini : Cond.initialized y.cls ∈ U0)
    (hd : y.cls ≠ "java/lang/invoke/MethodHandle" ∧ y.cls ≠ "java/lang/invoke/VarHandle" ∧ (parseMethodDescriptor y.desc).map (fun d => d.parameters.length) = some na) (hna : As.length = na)
    (hRm : f0 + 1 ≤ R.frames ∧ 8 + (ny + 11) + k0 ≤ R.locals) (hrest : (rest.map fun v => v.category).sum ≤ 8) (hcs : cells + 1 ≤ R.cells ∧ slots + 6 ≤ R.slots) (hdg : decode cc pc = .ok (.invokestatic idx, 3))
    (kk : ∀ (H1 : Heap) (locs1 : List Loc), WD g s A ws2 H1 locs1 → W p l e R s m args below meth c H1 locs1 (cells + 1) (slots + 6) Q (F0 m (pc + 3) ls (.int r :: rest))) : W p l e R s m args below meth c H locs cells slots Q (F0 m pc ls (As.reverse ++ rest)) := by
  have hF := va_free (wc := wc) hW.2.1 hW.2.2 M.2.2.2.2.2.1 isC hC
  have hG : GoodIn U0 (va_wsS own idx y (.codeWith y cy ny (some .int) hh :: U0)) := by
    intro w hw
    rcases List.mem_append.mp hw with h | h
    · simp only [List.mem_cons, List.not_mem_nil, or_false] at h
      rcases h with rfl | rfl | rfl
      · exact U0_good _ hl
      · exact U0_good _ hst
      · exact U0_good _ hini
    · rcases List.mem_cons.mp h with rfl | h
      · exact U0_good _ hcode
      · exact U0_good _ h
  refine va_calli (A1 := va_A wc H.size) (vx_runSW (hh := hh) (As := As) (rest := rest) ⟨M.1, M.2.1, M.2.2.1, M.2.2.2.1, M.2.2.2.2.1⟩ (hM H.size) (cw := vx_cwSW na M.2.2.2.2.1 hG rfl rfl rfl hd hRm) ⟨pre9_blind, pre9_of M hW isC hC hCn⟩ rfl hna hls rfl (lv_room hrest) hdg hcs) hW.2.2 (fun q _ h => hF q h) hF (fun r' u t H1 locs1 ht hvm hw hB hz1 hk1 hS1 => ?_)
  subst hw
  obtain ⟨hP1, hD1⟩ := hB
  rw [ht] at hP1
  exact kk H1 locs1 (join9 M hW isC isR pm hC hR hn hdis hpn hpm hk1 hP1 hD1 hS1)
end CALLSW
