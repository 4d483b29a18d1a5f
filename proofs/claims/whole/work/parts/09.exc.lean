/-! Methods that throw: what they throw, and that nothing has changed -/
def excN (k : Nat) : String := excL.getD (k - 1) "java/util/NoSuchElementException"
abbrev nm9 : List String := ["java/lang/RuntimeException", "java/lang/Exception"]
def xB (cls : String) : List Cond := [.declares (exS "java/lang/RuntimeException"), .declares (exS "java/lang/Exception"), .declares (exS "java/lang/Throwable"), .castable cls cls]
def XC9 (g : G9) (wc : va_W) (sz : Nat) (E0 : String) : String → State → State → Prop := vx_X (fun (_ : Unit) => True) (fun E _ t => E = E0 ∧ va_P (gD g) vwCl wc t.heap ∧ va_D (va_A wc sz) wc) (va_A wc sz)
def QnV : Array Value → State → Outcome → State → Prop := va_Qv (fun (_ : Unit) => False) (fun _ _ => True) (fun _ => False)
def QnI : Array Value → State → Outcome → State → Prop := va_Qi (fun _ (_ : Unit) => False) (fun _ _ => True) (fun _ => False)
abbrev rm9x (f k : Nat) : Room := { frames := f, cells := 1, slots := 6, locals := k }
def CtX (Qn : Array Value → State → Outcome → State → Prop) (l : Launch) (g : G9) (y : MethodName) (cc : ByteArray) (n : Nat) (ret : Option FieldType) (f k : Nat) (av : List Value) (wc : va_W) (E0 : String) : Prop :=
  ∀ sz : Nat, vx_Met l y (.code y cc n ret :: U0) (rm9x f k) (Pre9 g av wc sz) Qn (XC9 g wc sz E0) 1 6 (va_A wc sz)
section EXC
variable {p : Program} {l : Launch} {e : Env} {R : Room} {s : State} {m : MethodId} {args : Array Value} {below : List Frame} {meth : Method} {c : Code} {H : Heap} {locs : List Loc} {cells slots : Nat} {Q : State → Prop}
variable {g : G9} {A : Nat → Prop} {cc : ByteArray} {n : Nat} {own : String} {ws wc : va_W} {pc : Nat} {ls : Array Slot} {rest : List Value} {a idx : Nat} {Qn : Array Value → State → Outcome → State → Prop} {E0 : String}
theorem startX {y : MethodName} {ret : Option FieldType} {f k : Nat} {av : List Value} (hy : plainName y.cls = true) (hn : (lg_sl av).length ≤ n)
    (body : ∀ (p : Program) (e : Env) (s : State) (m : MethodId) (below : List Frame) (meth : Method) (c : Code) (A : Nat → Prop) (Q : State → Prop) (ls : Array Slot) (args : Array Value), MC p s m args meth c cc n y.cls g A → WD g s A wc s.heap [] → lv_has ls n (lv_args 0 av) →
      meth.locks = false → (∀ x ∈ c.exceptionTable.toList, False) → A = va_A wc s.heap.size → Q = vx_MQ below Qn (XC9 g wc s.heap.size E0) args s 1 6 (va_A wc s.heap.size) →
      W p l e (rm9x f k) s m args below meth c s.heap [] 0 0 Q (F0 m 0 ls [])) : CtX Qn l g y cc n ret f k av wc E0 := by
  intro sz
  refine vx_ofW (cc := cc) (maxL := n) (ret := ret) hy rfl ?_
  intro p e s m args below meth c s₁ B hml hex hv
  obtain ⟨rfl, hsz, hP, hK, hD0⟩ := hv
  subst hsz
  have hts := atoms_spec (ws := .code y cc n ret :: U0) B.pre
  have hlocks := B.notSynchronized
  have hl := lv_entry av (n := n) hn
  rw [lg_entry_eq]
  generalize (lg_sl av ++ List.replicate (n - (lg_sl av).length) Slot.unset).toArray = ls at hl ⊢
  exact body p e s m below meth c (va_A wc s.heap.size) _ ls _ ⟨B.exec, B.bytes, hml, findClass_of_methodNamed B.named, fun w h => hts w (List.mem_cons_of_mem _ h), fun q h => Or.inr h, hK⟩ ⟨hP, hD0.self, va_S.rf⟩ hl hlocks hex rfl rfl
theorem xc9_of (hA : A = va_A wc s.heap.size) (hW : WD g s A wc H locs) {t : State} (h1 : H.size ≤ t.heap.size) (h2 : ∀ q : Nat, q < H.size → t.heap[q]? = H[q]?) : XC9 g wc s.heap.size E0 E0 s t := by
  subst hA
  obtain ⟨hP, hD, hS⟩ := hW
  refine ⟨(), trivial, ⟨rfl, fun k q hk => (hP k q hk).kept (h2 q.1 (hP k q hk).lt), hD⟩, Nat.le_trans hS.1 h1, fun q hq hn => ?_⟩
  rw [h2 q (Nat.lt_of_lt_of_le hq hS.1)]
  exact hS.2.1 q hq hn
theorem rThrowS {text : String} {ik is ic : Nat} (hl9 : l.stackTraces = false) (M : MC p s m args meth c cc n RX9 g A) (hls : ls.size = n) (hW : WD g s A wc H locs) (hlocks : meth.locks = false) (hex : ∀ x ∈ c.exceptionTable.toList, False) (hA : A = va_A wc s.heap.size) (hQ : Q = vx_MQ below Qn (XC9 g wc s.heap.size E0) args s 1 6 (va_A wc s.heap.size))
    (hfit : Bundle.fit E0 = true) (hE : E0 ∈ excL) (hk : Cond.classLink RX9 ik E0 ∈ U0) (hini : Cond.initialized E0 ∈ U0) (hstr : (is, text) ∈ strL)
    (hg : ∀ w ∈ (vx_atS RX9 ic E0 nm9).filter goodWord, w ∈ U0) (hb9 : (vx_atS RX9 ic E0 nm9).filter (fun w => !goodWord w) = xB E0)
    (hot : (vx_atS RX9 ic E0 nm9).all vx_ot = true) (hRm : 6 ≤ R.frames ∧ 90 ≤ R.locals) (hrest : (rest.map fun v => v.category).sum ≤ 8) (hcs : 1 ≤ R.cells ∧ 6 ≤ R.slots)
    (d0 : decode cc pc = .ok (.new ik, 3)) (d3 : decode cc (pc + 3) = .ok (.dup, 1)) (d4 : decode cc (pc + 4) = .ok (.ldc is, 2)) (d6 : decode cc (pc + 6) = .ok (.invokespecial ic, 3)) (d9 : decode cc (pc + 9) = .ok (.athrow, 1)) :
    W p l e R s m args below meth c H locs 0 0 Q (F0 m pc ls rest) := by
  subst hQ
  have hu := M.2.2.2.2.1
  have kx := M.2.2.2.2.2.2
  obtain ⟨sa, hsa⟩ := kx.2.2.2.2.2.2.1 _ hstr
  have ex := kx.2.2.2.2.2.2.2
  refine vx_throwS (A := A) (names := nm9) (cls := E0) (text := text) (sa := sa) M.1 M.2.1 hl9 M.2.2.2.1 hfit (by decide) (hu _ hk) (hu _ hini) hsa
    (vx_hat (B := xB E0) (fun w hw => hu w (hg w hw)) (fun w hw => by rw [hb9] at hw; exact hw) (vx_c (va_Nw.use rfl ex.1) (vx_c (va_Nw.use rfl ex.2.1) (vx_c (va_Nw.use rfl ex.2.2.1) (vx_c (va_Nw.use rfl (ex.2.2.2.1 _ hE)) vx_n)))))
    (fun w hw => by
      rcases List.mem_cons.mp hw with rfl | hw
      · rfl
      · rcases List.mem_cons.mp hw with rfl | hw
        · rfl
        · exact List.all_eq_true.mp hot w hw)
    kx.2.2.2.2.1 kx.2.2.2.2.2.1 hW.2.2 (hls.trans M.2.2.1.symm) d0 d3 d4 d6 d9 (fun x hx => (hex x hx).elim) (by show 2 + 3 < R.frames; omega) (by show _ + (13 * (2 + 1) + 43) ≤ R.locals; omega) (by omega) (by omega) hlocks
    (fun t hal h1 h2 => xc9_of hA hW h1 h2) (by rw [← hA]; exact hW.2.2.2.2) (Nat.le_refl _) (Nat.le_refl _)
theorem rThrowSW {text : String} {ik is ic : Nat} (hl9 : l.stackTraces = false) (M : MC p s m args meth c cc n RX9 g A) (hls : ls.size = n) (hW : WD g s A wc H locs) (hlocks : meth.locks = false) (hex : ∀ x ∈ c.exceptionTable.toList, False) (hA : A = va_A wc s.heap.size) (hQ : Q = vx_MQ below Qn (XC9 g wc s.heap.size E0) args s 1 6 (va_A wc s.heap.size))
    (hfit : Bundle.fit E0 = true) (hE : E0 ∈ excL) (hk : Cond.classLink RX9 ik E0 ∈ U0) (hini : Cond.initialized E0 ∈ U0) (hstr : (is, text) ∈ strL)
    (hg : ∀ w ∈ (vx_atS RX9 ic E0 nm9).filter goodWord, w ∈ U0) (hb9 : (vx_atS RX9 ic E0 nm9).filter (fun w => !goodWord w) = xB E0)
    (hot : (vx_atS RX9 ic E0 nm9).all vx_ot = true) (hRm : 6 ≤ R.frames ∧ 90 ≤ R.locals) (hrest : (rest.map fun v => v.category).sum ≤ 8) (hcs : 1 ≤ R.cells ∧ 6 ≤ R.slots)
    (d0 : decode cc pc = .ok (.new ik, 3)) (d3 : decode cc (pc + 3) = .ok (.dup, 1)) (d4 : decode cc (pc + 4) = .ok (.ldc_w is, 3)) (d6 : decode cc (pc + 7) = .ok (.invokespecial ic, 3)) (d9 : decode cc (pc + 10) = .ok (.athrow, 1)) :
    W p l e R s m args below meth c H locs 0 0 Q (F0 m pc ls rest) := by
  subst hQ
  have hu := M.2.2.2.2.1
  have kx := M.2.2.2.2.2.2
  obtain ⟨sa, hsa⟩ := kx.2.2.2.2.2.2.1 _ hstr
  have ex := kx.2.2.2.2.2.2.2
  refine vx_throwSW (A := A) (names := nm9) (cls := E0) (text := text) (sa := sa) M.1 M.2.1 hl9 M.2.2.2.1 hfit (by decide) (hu _ hk) (hu _ hini) hsa
    (vx_hat (B := xB E0) (fun w hw => hu w (hg w hw)) (fun w hw => by rw [hb9] at hw; exact hw) (vx_c (va_Nw.use rfl ex.1) (vx_c (va_Nw.use rfl ex.2.1) (vx_c (va_Nw.use rfl ex.2.2.1) (vx_c (va_Nw.use rfl (ex.2.2.2.1 _ hE)) vx_n)))))
    (fun w hw => by
      rcases List.mem_cons.mp hw with rfl | hw
      · rfl
      · rcases List.mem_cons.mp hw with rfl | hw
        · rfl
        · exact List.all_eq_true.mp hot w hw)
    kx.2.2.2.2.1 kx.2.2.2.2.2.1 hW.2.2 (hls.trans M.2.2.1.symm) d0 d3 d4 d6 d9 (fun x hx => (hex x hx).elim) (by show 2 + 3 < R.frames; omega) (by show _ + (13 * (2 + 1) + 43) ≤ R.locals; omega) (by omega) (by omega) hlocks
    (fun t hal h1 h2 => xc9_of hA hW h1 h2) (by rw [← hA]; exact hW.2.2.2.2) (Nat.le_refl _) (Nat.le_refl _)
/-- a callee throws, and it goes on to the caller -/
theorem callXV {y : MethodName} {cy : ByteArray} {ny f0 k0 na b : Nat} {C : String} {As av : List Value} {wd : va_W}
    (M : MC p s m args meth c cc n own g A) (hls : ls.size = n) (hW : WD g s A wc H locs) (hlocks : meth.locks = false) (hex : ∀ x ∈ c.exceptionTable.toList, False) (hA : A = va_A wc s.heap.size) (hQ : Q = vx_MQ below Qn (XC9 g wc s.heap.size E0) args s 1 6 (va_A wc s.heap.size))
    (hM : CtX QnV l g y cy ny none f0 k0 av wd E0) (hav : av = .ref b :: As)
    (isC isR pm : List Nat) (hC : isC.map (fun i => wc[i]?) = wd.map some) (hCn : va_nd isC = true) (hR : isR.map (fun i => wc[i]?) = (pk9 wc isR).map some) (hn : va_nd isR = true) (hdis : isR.all (fun i => !isC.contains i) = true) (hpn : va_nd pm = true) (hpm : pm.map (fun i => (pk9 wc isR ++ wd)[i]?) = wc.map some)
    (qb ci : Nat) {fs : List Value} {r0 : vw_C} (hq : wc[qb]? = some (b, .inr (ci, fs))) (hc : vwCl[ci]? = some r0) (hCr : r0.1 = C)
    (hcode : Cond.code y cy ny none ∈ U0) (hl : Cond.methodLink own idx y ∈ U0) (hin : Cond.instanceMethod y ∈ U0) (hsel : Cond.selects C y y ∈ U0) (hini : Cond.initialized y.cls ∈ U0)
    (hd : y.cls ≠ "java/lang/invoke/MethodHandle" ∧ y.cls ≠ "java/lang/invoke/VarHandle" ∧ (parseMethodDescriptor y.desc).map (fun d => d.parameters.length) = some na) (hna : As.length = na)
    (hRm : f0 + 1 ≤ R.frames ∧ 8 + (ny + 11) + k0 ≤ R.locals) (hrest : (rest.map fun v => v.category).sum ≤ 8) (hcs : 1 ≤ R.cells ∧ 6 ≤ R.slots) (hdg : decode cc pc = .ok (.invokevirtual idx, 3)) :
    W p l e R s m args below meth c H locs 0 0 Q (F0 m pc ls (As.reverse ++ .ref b :: rest)) := by
  subst hav
  subst hCr
  subst hQ
  have hF := va_free (wc := wd) hW.2.1 hW.2.2 M.2.2.2.2.2.1 isC hC
  have hB : CallB R s args own idx y cy ny none (.code y cy ny none :: U0) (rm9x f0 k0) 1 6 na := callB_of na M.2.2.2.2.1 (u0_good hcode) rfl rfl rfl (M.2.2.2.2.1 _ hini) (M.2.2.2.2.1 _ hl) hd hRm
  refine vx_callv (A1 := fun _ => False) (AX := va_A wd H.size) (vx_runV (As := As) (rest := rest) ⟨M.1, M.2.1, M.2.2.1, M.2.2.2.1, M.2.2.2.2.1⟩ (hM H.size) (cw := ⟨hB, M.2.2.2.2.1 _ hin, M.2.2.2.2.1 _ hsel⟩) ⟨pre9_blind, va_recv M.2.2.2.2.2.2.1 hW.1 hc hq, pre9_of M hW isC hC hCn⟩ rfl hna hls rfl (lv_room hrest) hdg (by omega)) hW.2.2 (fun q _ h => h.elim) hF (fun q _ h => hF q h)
    (fun E ce q9 u t H1 locs1 ht hvm hpx hB1 hz1 hk1 hS1 hce hcv hcl => ?_) (fun u t H1 locs1 ht hvm hw hB hz1 hk1 hS1 => hw.elim)
  obtain ⟨hE, hP1, hD1⟩ := hB1
  subst hE
  rw [ht] at hP1
  have hW1 := join9 M hW isC isR pm hC hR hn hdis hpn hpm hk1 hP1 hD1 hS1
  exact vx_out (fun x hx => (hex x hx).elim) hlocks hce hcv hcl (fun t2 ht2 _ => xc9_of hA hW1 (by rw [ht2]; exact Nat.le_refl _) (fun q _ => by rw [ht2])) (by rw [← hA]; exact hW1.2.2.2.2) (Nat.le_of_eq (Nat.zero_add 1)) (Nat.le_of_eq (Nat.zero_add 6))
end EXC
theorem xg1 : ∀ w ∈ (vx_atS RX9 290 "java/lang/IndexOutOfBoundsException" nm9).filter goodWord, w ∈ U0 := by decide +kernel
theorem xb1 : (vx_atS RX9 290 "java/lang/IndexOutOfBoundsException" nm9).filter (fun w => !goodWord w) = xB "java/lang/IndexOutOfBoundsException" := by decide +kernel
theorem xo1 : (vx_atS RX9 290 "java/lang/IndexOutOfBoundsException" nm9).all vx_ot = true := by decide +kernel
theorem xg2 : ∀ w ∈ (vx_atS RX9 89 "java/lang/IllegalArgumentException" nm9).filter goodWord, w ∈ U0 := by decide +kernel
theorem xb2 : (vx_atS RX9 89 "java/lang/IllegalArgumentException" nm9).filter (fun w => !goodWord w) = xB "java/lang/IllegalArgumentException" := by decide +kernel
theorem xo2 : (vx_atS RX9 89 "java/lang/IllegalArgumentException" nm9).all vx_ot = true := by decide +kernel
theorem xg3 : ∀ w ∈ (vx_atS RX9 103 "java/lang/UnsupportedOperationException" nm9).filter goodWord, w ∈ U0 := by decide +kernel
theorem xb3 : (vx_atS RX9 103 "java/lang/UnsupportedOperationException" nm9).filter (fun w => !goodWord w) = xB "java/lang/UnsupportedOperationException" := by decide +kernel
theorem xo3 : (vx_atS RX9 103 "java/lang/UnsupportedOperationException" nm9).all vx_ot = true := by decide +kernel
theorem xg4 : ∀ w ∈ (vx_atS RX9 267 "java/lang/IllegalStateException" nm9).filter goodWord, w ∈ U0 := by decide +kernel
theorem xb4 : (vx_atS RX9 267 "java/lang/IllegalStateException" nm9).filter (fun w => !goodWord w) = xB "java/lang/IllegalStateException" := by decide +kernel
theorem xo4 : (vx_atS RX9 267 "java/lang/IllegalStateException" nm9).all vx_ot = true := by decide +kernel
