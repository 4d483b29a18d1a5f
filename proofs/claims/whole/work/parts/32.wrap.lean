/-! The law's own small methods: they call the class and catch what it throws -/
def CtW (l : Launch) (g : G9) (y : MethodName) (cc : ByteArray) (n : Nat) (hh : List (Nat × Nat × Nat × Nat)) (f k : Nat) (av : List Value) (wc : va_W) (r : Int32) (w1 : va_W) : Prop :=
  ∀ sz : Nat, Met l y (.codeWith y cc n (some .int) hh :: U0) (rm9x f k) (Pre9 g av wc sz) (Qi9 g wc w1 sz r) 1 6 (va_A wc sz)
section WRAP
variable {p : Program} {l : Launch} {e : Env} {R : Room} {s : State} {m : MethodId} {args : Array Value} {below : List Frame} {meth : Method} {c : Code} {H : Heap} {locs : List Loc} {cells slots : Nat} {Q : State → Prop}
variable {g : G9} {A : Nat → Prop} {cc : ByteArray} {n : Nat} {own : String} {ws : va_W} {pc : Nat} {ls : Array Slot} {rest : List Value} {a idx : Nat}
theorem startW {y : MethodName} {hh : List (Nat × Nat × Nat × Nat)} {f k : Nat} {av : List Value} {wc w1 : va_W} {r : Int32} (hy : plainName y.cls = true) (hn : (lg_sl av).length ≤ n)
    (body : ∀ (p : Program) (e : Env) (s : State) (m : MethodId) (below : List Frame) (meth : Method) (c : Code) (A : Nat → Prop) (Q : State → Prop) (ls : Array Slot) (args : Array Value), MC p s m args meth c cc n y.cls g A → WD g s A wc s.heap [] → lv_has ls n (lv_args 0 av) → c.exceptionTable.toList = tableOf hh →
      (∀ (H : Heap) (locs : List Loc) (ls : Array Slot) (pc : Nat), WD g s A w1 H locs → decode cc pc = .ok (.ireturn, 1) → W p l e (rm9x f k) s m args below meth c H locs 1 6 Q (F0 m pc ls [.int r])) →
      W p l e (rm9x f k) s m args below meth c s.heap [] 0 0 Q (F0 m 0 ls [])) : CtW l g y cc n hh f k av wc r w1 := by
  intro sz
  refine va_MetW (cc := cc) (maxL := n) (ret := some .int) (hh := hh) hy rfl ?_
  intro p e s m args below meth c s₁ B hml hv
  obtain ⟨rfl, hsz, hP, hK, hD0⟩ := hv
  subst hsz
  have hts := atoms_spec (ws := .codeWith y cc n (some .int) hh :: U0) B.pre
  have hlocks := B.notSynchronized
  have htab := vx_table (x := y) B (hts _ List.mem_cons_self)
  have hl := lv_entry av (n := n) hn
  rw [lg_entry_eq]
  generalize (lg_sl av ++ List.replicate (n - (lg_sl av).length) Slot.unset).toArray = ls at hl ⊢
  refine body p e s m below meth c (va_A wc s.heap.size) _ ls _ ⟨B.exec, B.bytes, hml, findClass_of_methodNamed B.named, fun w h => hts w (List.mem_cons_of_mem _ h), fun q h => Or.inr h, hK⟩ ⟨hP, hD0.self, va_S.rf⟩ hl htab ?_
  intro H locs ls pc hW hdg
  obtain ⟨hP1, hD1, hS1⟩ := hW
  exact W.iret B.exec B.bytes B.returns (fun t ht hWm => ⟨⟨r, (), rfl, rfl, by rw [ht]; exact hP1, hD1⟩, hS1.F ht⟩) hS1.2.2 hdg hlocks
theorem rLast (M : MC p s m args meth c cc n own g A) (hW : WD g s A ws H locs) (q0 : Nat) {N : Nat} {f f' : Nat → Int64} (ha : ws[q0]? = some (la g a N f)) {i : Int32} {x : Int64} (hin : ix i N = true) (hf : f' = vp_updL f i.toNatClampNeg x) {ws' : va_W} (hws : ws.set q0 (la g a N f') = ws') (hdg : decode cc pc = .ok (.lastore, 1))
    (kk : ∀ (H1 : Heap) (locs1 : List Loc), WD g s A ws' H1 locs1 → W p l e R s m args below meth c H1 locs1 cells slots Q (F0 m (pc + 1) ls rest)) : W p l e R s m args below meth c H locs cells slots Q (F0 m pc ls (.long x :: .int i :: .ref a :: rest)) := by
  subst hf
  subst hws
  exact va_last (D := gD g) M.1 M.2.1 M.2.2.2.2.2.2.1 hW.1 hW.2.1 hW.2.2 q0 2 ha rfl (ix_in hin) hdg (fun H1 locs1 hP hD hS => kk H1 locs1 ⟨hP, hD, hS⟩)
theorem rLald (M : MC p s m args meth c cc n own g A) (hW : WD g s A ws H locs) (q0 : Nat) {N : Nat} {f : Nat → Int64} (ha : ws[q0]? = some (la g a N f)) {i : Int32} (hin : ix i N = true) (hdg : decode cc pc = .ok (.laload, 1))
    (kk : W p l e R s m args below meth c H locs cells slots Q (F0 m (pc + 1) ls (.long (f i.toNatClampNeg) :: rest))) : W p l e R s m args below meth c H locs cells slots Q (F0 m pc ls (.int i :: .ref a :: rest)) :=
  va_lald (D := gD g) M.1 M.2.1 M.2.2.2.2.2.2.1 hW.1 q0 2 ha rfl (ix_in hin) hdg kk
theorem callXc {Qn : Array Value → State → Outcome → State → Prop} {y : MethodName} {cy : ByteArray} {ny f0 k0 na b : Nat} {ry : Option FieldType} {E0 C : String} {As av : List Value} {wd : va_W}
    (hQn : Qn = QnV ∨ Qn = QnI) (M : MC p s m args meth c cc n own g A) (hls : ls.size = n) (hW : WD g s A ws H locs)
    (hM : CtX Qn l g y cy ny ry f0 k0 av wd E0) (hav : av = .ref b :: As)
    (isC isR pm : List Nat) (hC : isC.map (fun i => ws[i]?) = wd.map some) (hCn : va_nd isC = true) (hR : isR.map (fun i => ws[i]?) = (pk9 ws isR).map some) (hn : va_nd isR = true) (hdis : isR.all (fun i => !isC.contains i) = true) (hpn : va_nd pm = true) (hpm : pm.map (fun i => (pk9 ws isR ++ wd)[i]?) = ws.map some)
    (qb ci : Nat) {fs : List Value} {r0 : vw_C} (hq : ws[qb]? = some (b, .inr (ci, fs))) (hc : vwCl[ci]? = some r0) (hCr : r0.1 = C)
    (hcode : Cond.code y cy ny ry ∈ U0) (hl : Cond.methodLink own idx y ∈ U0) (hin : Cond.instanceMethod y ∈ U0) (hsel : Cond.selects C y y ∈ U0) (hini : Cond.initialized y.cls ∈ U0)
    (hd : y.cls ≠ "java/lang/invoke/MethodHandle" ∧ y.cls ≠ "java/lang/invoke/VarHandle" ∧ (parseMethodDescriptor y.desc).map (fun d => d.parameters.length) = some na) (hna : As.length = na)
    (hRm : f0 + 1 ≤ R.frames ∧ 8 + (ny + 11) + k0 ≤ R.locals) (hrest : (rest.map fun v => v.category).sum ≤ 8) (hcs : cells + 1 ≤ R.cells ∧ slots + 6 ≤ R.slots) (hdg : decode cc pc = .ok (.invokevirtual idx, 3))
    (kx : ∀ (q : Addr) (ce : Cell) (H1 : Heap) (locs1 : List Loc), WD g s A ws H1 locs1 → H1[q]? = some ce → ce.vm = .none → s.vm.findClass E0 = some ce.cls → vx_W p l e R s m args below meth c H1 locs1 (cells + 1) (slots + 6) Q (F0 m pc ls rest) q) :
    W p l e R s m args below meth c H locs cells slots Q (F0 m pc ls (As.reverse ++ .ref b :: rest)) := by
  subst hav
  subst hCr
  have hF := va_free (wc := wd) hW.2.1 hW.2.2 M.2.2.2.2.2.1 isC hC
  have hB : CallB R s args own idx y cy ny ry (.code y cy ny ry :: U0) (rm9x f0 k0) 1 6 na := callB_of na M.2.2.2.2.1 (u0_good hcode) rfl rfl rfl (M.2.2.2.2.1 _ hini) (M.2.2.2.2.1 _ hl) hd hRm
  have hrun := vx_runV (e := e) (below := below) (meth := meth) (H := H) (locs := locs) (cells := cells) (slots := slots) (g := F0 m pc ls (As.reverse ++ .ref b :: rest)) (As := As) (rest := rest) ⟨M.1, M.2.1, M.2.2.1, M.2.2.2.1, M.2.2.2.2.1⟩ (hM H.size) (cw := ⟨hB, M.2.2.2.2.1 _ hin, M.2.2.2.2.1 _ hsel⟩) ⟨pre9_blind, va_recv M.2.2.2.2.2.2.1 hW.1 hc hq, pre9_of M hW isC hC hCn⟩ rfl hna hls rfl (lv_room hrest) hdg hcs
  have hkx : ∀ (E : String) (ce : Cell) (q9 : Addr) (u : Unit) (t : State) (H1 : Heap) (locs1 : List Loc), t.heap = H1 → s.vm.Alike t.vm → True → (E = E0 ∧ va_P (gD g) vwCl wd t.heap ∧ va_D (va_A wd H.size) wd) → H.size ≤ H1.size → (∀ q : Nat, q < H.size → ¬ va_A wd H.size q → H1[q]? = H[q]?) → va_S A s.heap H1 locs1 → H1[q9]? = some ce → ce.vm = .none → s.vm.findClass E = some ce.cls → vx_W p l e R s m args below meth c H1 locs1 (cells + 1) (slots + 6) Q (F0 m pc ls rest) q9 := by
    intro E ce q9 u t H1 locs1 ht hvm _ hB1 hz1 hk1 hS1 hce hcv hcl
    obtain ⟨hE, hP1, hD1⟩ := hB1
    subst hE
    rw [ht] at hP1
    exact kx q9 ce H1 locs1 (join9 M hW isC isR pm hC hR hn hdis hpn hpm hk1 hP1 hD1 hS1) hce hcv hcl
  rcases hQn with rfl | rfl
  · exact vx_callv (A1 := fun _ => False) (AX := va_A wd H.size) hrun hW.2.2 (fun q _ h => h.elim) hF (fun q _ h => hF q h) hkx (fun u t H1 locs1 ht hvm hw hB hz1 hk1 hS1 => hw.elim)
  · exact vx_calli (A1 := fun _ => False) (AX := va_A wd H.size) hrun hW.2.2 (fun q _ h => h.elim) hF (fun q _ h => hF q h) hkx (fun r u t H1 locs1 ht hvm hw hB hz1 hk1 hS1 => hw.elim)
/-- the law calls one of them -/
theorem callW {y : MethodName} {cy : ByteArray} {ny f0 k0 na : Nat} {hh : List (Nat × Nat × Nat × Nat)} {As : List Value} {wc w1 ws2 : va_W} {r : Int32}
    (M : MC p s m args meth c cc n own g A) (hls : ls.size = n) (hW : WD g s A ws H locs) (hM : CtW l g y cy ny hh f0 k0 As wc r w1)
    (isC isR pm : List Nat) (hC : isC.map (fun i => ws[i]?) = wc.map some) (hCn : va_nd isC = true) (hR : isR.map (fun i => ws[i]?) = (pk9 ws isR).map some) (hn : va_nd isR = true) (hdis : isR.all (fun i => !isC.contains i) = true) (hpn : va_nd pm = true) (hpm : pm.map (fun i => (pk9 ws isR ++ w1)[i]?) = ws2.map some)
    (hcode : Cond.codeWith y cy ny (some .int) hh ∈ U0) (hl : Cond.methodLink own idx y ∈ U0) (hst : Cond.static y ∈ U0) (hini : Cond.initialized y.cls ∈ U0)
    (hd : y.cls ≠ "java/lang/invoke/MethodHandle" ∧ y.cls ≠ "java/lang/invoke/VarHandle" ∧ (parseMethodDescriptor y.desc).map (fun d => d.parameters.length) = some na) (hna : As.length = na)
    (hRm : f0 + 1 ≤ R.frames ∧ 8 + (ny + 11) + k0 ≤ R.locals) (hrest : (rest.map fun v => v.category).sum ≤ 8) (hcs : cells + 1 ≤ R.cells ∧ slots + 6 ≤ R.slots) (hdg : decode cc pc = .ok (.invokestatic idx, 3))
    (kk : ∀ (H1 : Heap) (locs1 : List Loc), WD g s A ws2 H1 locs1 → W p l e R s m args below meth c H1 locs1 (cells + 1) (slots + 6) Q (F0 m (pc + 3) ls (.int r :: rest))) : W p l e R s m args below meth c H locs cells slots Q (F0 m pc ls (As.reverse ++ rest)) := by
  have hF := va_free (wc := wc) hW.2.1 hW.2.2 M.2.2.2.2.2.1 isC hC
  have hG : GoodIn U0 (va_wsS own idx y (.codeWith y cy ny (some .int) hh :: U0)) := by
    intro w hw
    rcases List.mem_append.mp hw with h | h
    · simp only [List.mem_cons, List.not_mem_nil, or_false] at h
      rcases h with rfl | rfl | rfl
      · exact U0_good _ hl
      · exact U0_good _ hst
      · exact U0_good _ hini
    · rcases List.mem_cons.mp h with rfl | h
      · exact U0_good _ hcode
      · exact U0_good _ h
  refine va_calli (A1 := va_A wc H.size) (vx_runSW (hh := hh) (As := As) (rest := rest) ⟨M.1, M.2.1, M.2.2.1, M.2.2.2.1, M.2.2.2.2.1⟩ (hM H.size) (cw := vx_cwSW na M.2.2.2.2.1 hG rfl rfl rfl hd hRm) ⟨pre9_blind, pre9_of M hW isC hC hCn⟩ rfl hna hls rfl (lv_room hrest) hdg hcs) hW.2.2 (fun q _ h => hF q h) hF (fun r' u t H1 locs1 ht hvm hw hB hz1 hk1 hS1 => ?_)
  subst hw
  obtain ⟨hP1, hD1⟩ := hB
  rw [ht] at hP1
  exact kk H1 locs1 (join9 M hW isC isR pm hC hR hn hdis hpn hpm hk1 hP1 hD1 hS1)
end WRAP
