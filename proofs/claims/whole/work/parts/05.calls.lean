abbrev pk9 (ws : va_W) (is : List Nat) : va_W := is.filterMap (fun i => ws[i]?)
section CALLS
variable {p : Program} {l : Launch} {e : Env} {R : Room} {s : State} {m : MethodId} {args : Array Value} {below : List Frame} {meth : Method} {c : Code} {H : Heap} {locs : List Loc} {cells slots : Nat} {Q : State → Prop}
variable {g : G9} {A : Nat → Prop} {cc : ByteArray} {n : Nat} {own : String} {ws : va_W} {pc : Nat} {ls : Array Slot} {rest : List Value}
/-- an instance method of class C is called: it returns an int -/
theorem callVI {y : MethodName} {cy : ByteArray} {ny idx f0 k0 na b : Nat} {ry : FieldType} {C : String} {As av : List Value} {wc w1 ws2 : va_W} {r : Int32}
    (M : MC p s m args meth c cc n own g A) (hls : ls.size = n) (hW : WD g s A ws H locs) (hM : CtI l g y cy ny ry f0 k0 av wc r w1) (hav : av = .ref b :: As)
    (isC isR pm : List Nat) (hC : isC.map (fun i => ws[i]?) = wc.map some) (hCn : va_nd isC = true) (hR : isR.map (fun i => ws[i]?) = (pk9 ws isR).map some) (hn : va_nd isR = true) (hdis : isR.all (fun i => !isC.contains i) = true) (hpn : va_nd pm = true) (hpm : pm.map (fun i => (pk9 ws isR ++ w1)[i]?) = ws2.map some)
    (qb ci : Nat) {fs : List Value} {r0 : vw_C} (hq : ws[qb]? = some (b, .inr (ci, fs))) (hc : vwCl[ci]? = some r0) (hCr : r0.1 = C)
    (hcode : Cond.code y cy ny (some ry) ∈ U0) (hl : Cond.methodLink own idx y ∈ U0) (hin : Cond.instanceMethod y ∈ U0) (hsel : Cond.selects C y y ∈ U0) (hini : Cond.initialized y.cls ∈ U0)
    (hd : y.cls ≠ "java/lang/invoke/MethodHandle" ∧ y.cls ≠ "java/lang/invoke/VarHandle" ∧ (parseMethodDescriptor y.desc).map (fun d => d.parameters.length) = some na) (hna : As.length = na)
    (hRm : f0 + 1 ≤ R.frames ∧ 8 + (ny + 11) + k0 ≤ R.locals) (hrest : (rest.map fun v => v.category).sum ≤ 8) (hcs : cells ≤ R.cells ∧ slots ≤ R.slots) (hdg : decode cc pc = .ok (.invokevirtual idx, 3))
    (kk : ∀ (H1 : Heap) (locs1 : List Loc), WD g s A ws2 H1 locs1 → W p l e R s m args below meth c H1 locs1 cells slots Q (F0 m (pc + 3) ls (.int r :: rest))) : W p l e R s m args below meth c H locs cells slots Q (F0 m pc ls (As.reverse ++ .ref b :: rest)) := by
  subst hav
  subst hCr
  have hF := va_free (wc := wc) hW.2.1 hW.2.2 M.2.2.2.2.2.1 isC hC
  refine va_calli (A1 := va_A wc H.size) (va_runV (As := As) (rest := rest) ⟨M.1, M.2.1, M.2.2.1, M.2.2.2.1, M.2.2.2.2.1⟩ (hM H.size) (cw := ⟨u0_B M hcode hini hl hd hRm, M.2.2.2.2.1 _ hin, M.2.2.2.2.1 _ hsel⟩) ⟨pre9_blind, va_recv M.2.2.2.2.2.2.1 hW.1 hc hq, pre9_of M hW isC hC hCn⟩ rfl hna hls rfl (lv_room hrest) hdg hcs) hW.2.2 (fun q _ h => hF q h) hF (fun r' u t H1 locs1 ht hvm hw hB hz1 hk1 hS1 => ?_)
  subst hw
  obtain ⟨hP1, hD1⟩ := hB
  rw [ht] at hP1
  exact kk H1 locs1 (join9 M hW isC isR pm hC hR hn hdis hpn hpm hk1 hP1 hD1 hS1)
theorem callVV {y : MethodName} {cy : ByteArray} {ny idx f0 k0 na b : Nat} {C : String} {As av : List Value} {wc w1 ws2 : va_W}
    (M : MC p s m args meth c cc n own g A) (hls : ls.size = n) (hW : WD g s A ws H locs) (hM : CtV l g y cy ny f0 k0 av wc w1) (hav : av = .ref b :: As)
    (isC isR pm : List Nat) (hC : isC.map (fun i => ws[i]?) = wc.map some) (hCn : va_nd isC = true) (hR : isR.map (fun i => ws[i]?) = (pk9 ws isR).map some) (hn : va_nd isR = true) (hdis : isR.all (fun i => !isC.contains i) = true) (hpn : va_nd pm = true) (hpm : pm.map (fun i => (pk9 ws isR ++ w1)[i]?) = ws2.map some)
    (qb ci : Nat) {fs : List Value} {r0 : vw_C} (hq : ws[qb]? = some (b, .inr (ci, fs))) (hc : vwCl[ci]? = some r0) (hCr : r0.1 = C)
    (hcode : Cond.code y cy ny none ∈ U0) (hl : Cond.methodLink own idx y ∈ U0) (hin : Cond.instanceMethod y ∈ U0) (hsel : Cond.selects C y y ∈ U0) (hini : Cond.initialized y.cls ∈ U0)
    (hd : y.cls ≠ "java/lang/invoke/MethodHandle" ∧ y.cls ≠ "java/lang/invoke/VarHandle" ∧ (parseMethodDescriptor y.desc).map (fun d => d.parameters.length) = some na) (hna : As.length = na)
    (hRm : f0 + 1 ≤ R.frames ∧ 8 + (ny + 11) + k0 ≤ R.locals) (hrest : (rest.map fun v => v.category).sum ≤ 8) (hcs : cells ≤ R.cells ∧ slots ≤ R.slots) (hdg : decode cc pc = .ok (.invokevirtual idx, 3))
    (kk : ∀ (H1 : Heap) (locs1 : List Loc), WD g s A ws2 H1 locs1 → W p l e R s m args below meth c H1 locs1 cells slots Q (F0 m (pc + 3) ls rest)) : W p l e R s m args below meth c H locs cells slots Q (F0 m pc ls (As.reverse ++ .ref b :: rest)) := by
  subst hav
  subst hCr
  have hF := va_free (wc := wc) hW.2.1 hW.2.2 M.2.2.2.2.2.1 isC hC
  refine va_callv (A1 := va_A wc H.size) (va_runV (As := As) (rest := rest) ⟨M.1, M.2.1, M.2.2.1, M.2.2.2.1, M.2.2.2.2.1⟩ (hM H.size) (cw := ⟨u0_B M hcode hini hl hd hRm, M.2.2.2.2.1 _ hin, M.2.2.2.2.1 _ hsel⟩) ⟨pre9_blind, va_recv M.2.2.2.2.2.2.1 hW.1 hc hq, pre9_of M hW isC hC hCn⟩ rfl hna hls rfl (lv_room hrest) hdg hcs) hW.2.2 (fun q _ h => hF q h) hF (fun u t H1 locs1 ht hvm hw hB hz1 hk1 hS1 => ?_)
  obtain ⟨hP1, hD1⟩ := hB
  rw [ht] at hP1
  exact kk H1 locs1 (join9 M hW isC isR pm hC hR hn hdis hpn hpm hk1 hP1 hD1 hS1)
/-- a static method is called -/
theorem callSI {y : MethodName} {cy : ByteArray} {ny idx f0 k0 na : Nat} {ry : FieldType} {As : List Value} {wc w1 ws2 : va_W} {r : Int32}
    (M : MC p s m args meth c cc n own g A) (hls : ls.size = n) (hW : WD g s A ws H locs) (hM : CtI l g y cy ny ry f0 k0 As wc r w1)
    (isC isR pm : List Nat) (hC : isC.map (fun i => ws[i]?) = wc.map some) (hCn : va_nd isC = true) (hR : isR.map (fun i => ws[i]?) = (pk9 ws isR).map some) (hn : va_nd isR = true) (hdis : isR.all (fun i => !isC.contains i) = true) (hpn : va_nd pm = true) (hpm : pm.map (fun i => (pk9 ws isR ++ w1)[i]?) = ws2.map some)
    (hcode : Cond.code y cy ny (some ry) ∈ U0) (hl : Cond.methodLink own idx y ∈ U0) (hst : Cond.static y ∈ U0) (hini : Cond.initialized y.cls ∈ U0)
    (hd : y.cls ≠ "java/lang/invoke/MethodHandle" ∧ y.cls ≠ "java/lang/invoke/VarHandle" ∧ (parseMethodDescriptor y.desc).map (fun d => d.parameters.length) = some na) (hna : As.length = na)
    (hRm : f0 + 1 ≤ R.frames ∧ 8 + (ny + 11) + k0 ≤ R.locals) (hrest : (rest.map fun v => v.category).sum ≤ 8) (hcs : cells ≤ R.cells ∧ slots ≤ R.slots) (hdg : decode cc pc = .ok (.invokestatic idx, 3))
    (kk : ∀ (H1 : Heap) (locs1 : List Loc), WD g s A ws2 H1 locs1 → W p l e R s m args below meth c H1 locs1 cells slots Q (F0 m (pc + 3) ls (.int r :: rest))) : W p l e R s m args below meth c H locs cells slots Q (F0 m pc ls (As.reverse ++ rest)) := by
  have hF := va_free (wc := wc) hW.2.1 hW.2.2 M.2.2.2.2.2.1 isC hC
  refine va_calli (A1 := va_A wc H.size) (va_runS (As := As) (rest := rest) ⟨M.1, M.2.1, M.2.2.1, M.2.2.2.1, M.2.2.2.2.1⟩ (hM H.size) (cw := ⟨u0_B M hcode hini hl hd hRm, M.2.2.2.2.1 _ hst⟩) ⟨pre9_blind, pre9_of M hW isC hC hCn⟩ rfl hna hls rfl (lv_room hrest) hdg hcs) hW.2.2 (fun q _ h => hF q h) hF (fun r' u t H1 locs1 ht hvm hw hB hz1 hk1 hS1 => ?_)
  subst hw
  obtain ⟨hP1, hD1⟩ := hB
  rw [ht] at hP1
  exact kk H1 locs1 (join9 M hW isC isR pm hC hR hn hdis hpn hpm hk1 hP1 hD1 hS1)
theorem callSV {y : MethodName} {cy : ByteArray} {ny idx f0 k0 na : Nat} {As : List Value} {wc w1 ws2 : va_W}
    (M : MC p s m args meth c cc n own g A) (hls : ls.size = n) (hW : WD g s A ws H locs) (hM : CtV l g y cy ny f0 k0 As wc w1)
    (isC isR pm : List Nat) (hC : isC.map (fun i => ws[i]?) = wc.map some) (hCn : va_nd isC = true) (hR : isR.map (fun i => ws[i]?) = (pk9 ws isR).map some) (hn : va_nd isR = true) (hdis : isR.all (fun i => !isC.contains i) = true) (hpn : va_nd pm = true) (hpm : pm.map (fun i => (pk9 ws isR ++ w1)[i]?) = ws2.map some)
    (hcode : Cond.code y cy ny none ∈ U0) (hl : Cond.methodLink own idx y ∈ U0) (hst : Cond.static y ∈ U0) (hini : Cond.initialized y.cls ∈ U0)
    (hd : y.cls ≠ "java/lang/invoke/MethodHandle" ∧ y.cls ≠ "java/lang/invoke/VarHandle" ∧ (parseMethodDescriptor y.desc).map (fun d => d.parameters.length) = some na) (hna : As.length = na)
    (hRm : f0 + 1 ≤ R.frames ∧ 8 + (ny + 11) + k0 ≤ R.locals) (hrest : (rest.map fun v => v.category).sum ≤ 8) (hcs : cells ≤ R.cells ∧ slots ≤ R.slots) (hdg : decode cc pc = .ok (.invokestatic idx, 3))
    (kk : ∀ (H1 : Heap) (locs1 : List Loc), WD g s A ws2 H1 locs1 → W p l e R s m args below meth c H1 locs1 cells slots Q (F0 m (pc + 3) ls rest)) : W p l e R s m args below meth c H locs cells slots Q (F0 m pc ls (As.reverse ++ rest)) := by
  have hF := va_free (wc := wc) hW.2.1 hW.2.2 M.2.2.2.2.2.1 isC hC
  refine va_callv (A1 := va_A wc H.size) (va_runS (As := As) (rest := rest) ⟨M.1, M.2.1, M.2.2.1, M.2.2.2.1, M.2.2.2.2.1⟩ (hM H.size) (cw := ⟨u0_B M hcode hini hl hd hRm, M.2.2.2.2.1 _ hst⟩) ⟨pre9_blind, pre9_of M hW isC hC hCn⟩ rfl hna hls rfl (lv_room hrest) hdg hcs) hW.2.2 (fun q _ h => hF q h) hF (fun u t H1 locs1 ht hvm hw hB hz1 hk1 hS1 => ?_)
  obtain ⟨hP1, hD1⟩ := hB
  rw [ht] at hP1
  exact kk H1 locs1 (join9 M hW isC isR pm hC hR hn hdis hpn hpm hk1 hP1 hD1 hS1)
/-- a nest mate's private static method is called -/
theorem callNI {y : MethodName} {cy : ByteArray} {ny idx f0 k0 na : Nat} {ry : FieldType} {host : String} {As : List Value} {r : Int32}
    (M : MC p s m args meth c cc n own g A) (hls : ls.size = n) (hW : WD g s A ws H locs) (hM : CtI l g y cy ny ry f0 k0 As [] r [])
    (hcode : Cond.code y cy ny (some ry) ∈ U0) (hl : va_Nw (.methodLinkNest own idx y host) s) (hst : Cond.static y ∈ U0) (hini : Cond.initialized y.cls ∈ U0)
    (hd : y.cls ≠ "java/lang/invoke/MethodHandle" ∧ y.cls ≠ "java/lang/invoke/VarHandle" ∧ (parseMethodDescriptor y.desc).map (fun d => d.parameters.length) = some na) (hna : As.length = na)
    (hRm : f0 + 1 ≤ R.frames ∧ 8 + (ny + 11) + k0 ≤ R.locals) (hrest : (rest.map fun v => v.category).sum ≤ 8) (hcs : cells ≤ R.cells ∧ slots ≤ R.slots) (hdg : decode cc pc = .ok (.invokestatic idx, 3))
    (kk : ∀ (H1 : Heap) (locs1 : List Loc), WD g s A ws H1 locs1 → W p l e R s m args below meth c H1 locs1 cells slots Q (F0 m (pc + 3) ls (.int r :: rest))) : W p l e R s m args below meth c H locs cells slots Q (F0 m pc ls (As.reverse ++ rest)) := by
  have hF := va_free (wc := []) hW.2.1 hW.2.2 M.2.2.2.2.2.1 [] rfl
  refine va_calli (A1 := va_A [] H.size) (va_runSN (host := host) (As := As) (rest := rest) ⟨M.1, M.2.1, M.2.2.1, M.2.2.2.1, M.2.2.2.2.1⟩ (hM H.size) (cw := ⟨va_cnB na M.2.2.2.2.1 (u0_good hcode) rfl rfl rfl hl (M.2.2.2.2.1 _ hini) hd hRm, M.2.2.2.2.1 _ hst, trivial⟩) ⟨pre9_blind, pre9_of M hW [] rfl rfl⟩ rfl hna hls rfl (lv_room hrest) hdg hcs) hW.2.2 (fun q _ h => hF q h) hF (fun r' u t H1 locs1 ht hvm hw hB hz1 hk1 hS1 => ?_)
  subst hw
  refine kk H1 locs1 ⟨fun k q hk => ?_, hW.2.1, hS1⟩
  refine (hW.1 k q hk).kept (hk1 q.1 (hW.1 k q hk).lt ?_)
  rintro (⟨k2, e2, h2⟩ | h2)
  · simp at h2
  · have := (hW.1 k q hk).lt
    omega
end CALLS
section STARTS
variable {l : Launch} {g : G9} {y : MethodName} {cc : ByteArray} {n f k : Nat} {av : List Value} {wc w1 : va_W}
theorem startI {ret : FieldType} {r : Int32} (hy : plainName y.cls = true) (hn : (lg_sl av).length ≤ n) 
    (body : ∀ (p : Program) (e : Env) (s : State) (m : MethodId) (below : List Frame) (meth : Method) (c : Code) (A : Nat → Prop) (Q : State → Prop) (ls : Array Slot) (args : Array Value), MC p s m args meth c cc n y.cls g A → WD g s A wc s.heap [] → lv_has ls n (lv_args 0 av) →
      (∀ (H : Heap) (locs : List Loc) (ls : Array Slot) (pc : Nat), WD g s A w1 H locs → narrow ret (.int r) = .int r → decode cc pc = .ok (.ireturn, 1) → W p l e (rm9 f k) s m args below meth c H locs 0 0 Q (F0 m pc ls [.int r])) →
      W p l e (rm9 f k) s m args below meth c s.heap [] 0 0 Q (F0 m 0 ls [])) : CtI l g y cc n ret f k av wc r w1 := by
  intro sz
  refine Met.ofW (cc := cc) (maxL := n) (ret := some ret) hy rfl ?_
  intro p e s m args below meth c s₁ B hml hv
  obtain ⟨rfl, hsz, hP, hK, hD0⟩ := hv
  subst hsz
  have hts := atoms_spec (ws := .code y cc n (some ret) :: U0) B.pre
  have hlocks := B.notSynchronized
  have hl := lv_entry av (n := n) hn
  rw [lg_entry_eq]
  generalize (lg_sl av ++ List.replicate (n - (lg_sl av).length) Slot.unset).toArray = ls at hl ⊢
  refine body p e s m below meth c (va_A wc s.heap.size) _ ls _ ⟨B.exec, B.bytes, hml, findClass_of_methodNamed B.named, fun w h => hts w (List.mem_cons_of_mem _ h), fun q h => Or.inr h, hK⟩ ⟨hP, hD0.self, va_S.rf⟩ hl ?_
  intro H locs ls pc hW hret hdg
  obtain ⟨hP1, hD1, hS1⟩ := hW
  exact W.zret (ty := ret) B.exec B.bytes B.returns hret (fun t ht hWm => ⟨⟨r, (), rfl, rfl, by rw [ht]; exact hP1, hD1⟩, hS1.F ht⟩) hS1.2.2 hdg hlocks
theorem startV (hy : plainName y.cls = true) (hn : (lg_sl av).length ≤ n)
    (body : ∀ (p : Program) (e : Env) (s : State) (m : MethodId) (below : List Frame) (meth : Method) (c : Code) (A : Nat → Prop) (Q : State → Prop) (ls : Array Slot) (args : Array Value), MC p s m args meth c cc n y.cls g A → WD g s A wc s.heap [] → lv_has ls n (lv_args 0 av) →
      (∀ (H : Heap) (locs : List Loc) (ls : Array Slot) (pc : Nat), WD g s A w1 H locs → decode cc pc = .ok (.return_, 1) → W p l e (rm9 f k) s m args below meth c H locs 0 0 Q (F0 m pc ls [])) →
      W p l e (rm9 f k) s m args below meth c s.heap [] 0 0 Q (F0 m 0 ls [])) : CtV l g y cc n f k av wc w1 := by
  intro sz
  refine Met.ofW (cc := cc) (maxL := n) (ret := none) hy rfl ?_
  intro p e s m args below meth c s₁ B hml hv
  obtain ⟨rfl, hsz, hP, hK, hD0⟩ := hv
  subst hsz
  have hts := atoms_spec (ws := .code y cc n none :: U0) B.pre
  have hlocks := B.notSynchronized
  have hl := lv_entry av (n := n) hn
  rw [lg_entry_eq]
  generalize (lg_sl av ++ List.replicate (n - (lg_sl av).length) Slot.unset).toArray = ls at hl ⊢
  refine body p e s m below meth c (va_A wc s.heap.size) _ ls _ ⟨B.exec, B.bytes, hml, findClass_of_methodNamed B.named, fun w h => hts w (List.mem_cons_of_mem _ h), fun q h => Or.inr h, hK⟩ ⟨hP, hD0.self, va_S.rf⟩ hl ?_
  intro H locs ls pc hW hdg
  obtain ⟨hP1, hD1, hS1⟩ := hW
  exact W.vret B.exec B.bytes B.returns (fun t ht hWm => ⟨⟨(), rfl, trivial, by rw [ht]; exact hP1, hD1⟩, hS1.F ht⟩) hS1.2.2 hdg
end STARTS
