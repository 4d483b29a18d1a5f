/-! Constructors: cells come, at addresses that are known only afterwards -/
abbrev rmN (f k mc ms : Nat) : Room := { frames := f, cells := mc, slots := ms, locals := k }
def CtN {S : Type} (l : Launch) (g : G9) (y : MethodName) (cc : ByteArray) (n f k mc ms : Nat) (av : List Value) (wc : va_W) (w1 : S → va_W) : Prop :=
  ∀ sz : Nat, Met l y (.code y cc n none :: U0) (rmN f k mc ms) (Pre9 g av wc sz) (va_Qv (fun (_ : S) => True) (fun u t => va_P (gD g) vwCl (w1 u) t.heap ∧ va_D (va_A wc sz) (w1 u)) (va_A wc sz)) mc ms (va_A wc sz)
section NEW9
variable {p : Program} {l : Launch} {e : Env} {R : Room} {s : State} {m : MethodId} {args : Array Value} {below : List Frame} {meth : Method} {c : Code} {H : Heap} {locs : List Loc} {cells slots : Nat} {Q : State → Prop}
variable {g : G9} {A : Nat → Prop} {cc : ByteArray} {n : Nat} {own : String} {ws : va_W} {pc : Nat} {ls : Array Slot} {rest : List Value} {a idx : Nat}
theorem startN {S : Type} {y : MethodName} {f k mc ms : Nat} {av : List Value} {wc : va_W} {w1 : S → va_W} (hy : plainName y.cls = true) (hn : (lg_sl av).length ≤ n) (hnm : y.name = "<init>")
    (body : ∀ (p : Program) (e : Env) (s : State) (m : MethodId) (below : List Frame) (meth : Method) (c : Code) (A : Nat → Prop) (Q : State → Prop) (ls : Array Slot) (args : Array Value), MC p s m args meth c cc n y.cls g A → WD g s A wc s.heap [] → lv_has ls n (lv_args 0 av) → meth.name = "<init>" →
      (∀ (u : S) (H : Heap) (locs : List Loc) (ls : Array Slot) (pc : Nat), WD g s A (w1 u) H locs → decode cc pc = .ok (.return_, 1) → W p l e (rmN f k mc ms) s m args below meth c H locs mc ms Q (F0 m pc ls [])) →
      W p l e (rmN f k mc ms) s m args below meth c s.heap [] 0 0 Q (F0 m 0 ls [])) : CtN l g y cc n f k mc ms av wc w1 := by
  intro sz
  refine Met.ofW (cc := cc) (maxL := n) (ret := none) hy rfl ?_
  intro p e s m args below meth c s₁ B hml hv
  obtain ⟨rfl, hsz, hP, hK, hD0⟩ := hv
  subst hsz
  have hts := atoms_spec (ws := .code y cc n none :: U0) B.pre
  have hlocks := B.notSynchronized
  have hin : meth.name = "<init>" := (name_of_methodNamed B.named B.method).1.trans hnm
  have hl := lv_entry av (n := n) hn
  rw [lg_entry_eq]
  generalize (lg_sl av ++ List.replicate (n - (lg_sl av).length) Slot.unset).toArray = ls at hl ⊢
  refine body p e s m below meth c (va_A wc s.heap.size) _ ls _ ⟨B.exec, B.bytes, hml, findClass_of_methodNamed B.named, fun w h => hts w (List.mem_cons_of_mem _ h), fun q h => Or.inr h, hK⟩ ⟨hP, hD0.self, va_S.rf⟩ hl hin ?_
  intro u H locs ls pc hW hdg
  obtain ⟨hP1, hD1, hS1⟩ := hW
  exact W.vret B.exec B.bytes B.returns (fun t ht hWm => ⟨⟨u, rfl, trivial, by rw [ht]; exact hP1, hD1⟩, hS1.F ht⟩) hS1.2.2 hdg
theorem rObj (M : MC p s m args meth c cc n own g A) (hls : ls.size = n) (h1 : Cond.methodLink own idx objectInit ∈ U0) (h2 : Cond.instanceMethod objectInit ∈ U0) (h3 : Cond.code objectInit ⟨#[0xb1]⟩ 1 none ∈ U0) (hRm : 1 ≤ R.frames ∧ 20 ≤ R.locals) (hrest : (rest.map fun v => v.category).sum ≤ 8) (hdg : decode cc pc = .ok (.invokespecial idx, 3))
    (kk : W p l e R s m args below meth c H locs cells slots Q (F0 m (pc + 3) ls rest)) : W p l e R s m args below meth c H locs cells slots Q (F0 m pc ls (.ref a :: rest)) := by
  refine W.objInit M.1 M.2.1 M.2.2.2.1 (M.2.2.2.2.1 _ h1) (M.2.2.2.2.1 _ h2) (M.2.2.2.2.1 _ h3) rfl (hls.trans M.2.2.1.symm) rfl hdg hRm.1 ?_ kk
  have := lv_room (m := m) (pc := pc) (ls := ls) (rest := .ref a :: rest) hrest
  omega
theorem rNew (M : MC p s m args meth c cc n own g A) (hW : WD g s A ws H locs) {C : String} {T : u_T} {N ci : Nat} {fs : List Value} (hU : ∀ w ∈ u_ws C T N, w ∈ U0) (ty : Nat → FieldType) (hty : ∀ k, k < N → parseFieldDescriptor (T k).2.2.1 = some (ty k)) (h1 : Cond.classLink own idx C ∈ U0) (h2 : Cond.instantiable C N ∈ U0) (h3 : Cond.initialized C ∈ U0) (hc : vwCl[ci]? = some (C, T, N)) (hfs : ∀ j, j < N → defaultValue (ty j) = vp_V fs j) (hcs : cells + 1 ≤ R.cells ∧ slots + N ≤ R.slots) (hdg : decode cc pc = .ok (.new idx, 3))
    (kk : ∀ (q : Nat) (H1 : Heap), WD g s A (ws ++ [ob q ci fs]) H1 locs → W p l e R s m args below meth c H1 locs (cells + 1) (slots + N) Q (F0 m (pc + 3) ls (.ref q :: rest))) : W p l e R s m args below meth c H locs cells slots Q (F0 m pc ls rest) :=
  va_new (D := gD g) M.1 M.2.1 M.2.2.2.2.1 hU ty hty M.2.2.2.1 (M.2.2.2.2.1 _ h1) (M.2.2.2.2.1 _ h2) (M.2.2.2.2.1 _ h3) M.2.2.2.2.2.2.1 hW.1 hW.2.1 hW.2.2 M.2.2.2.2.2.1 hc hfs hcs.1 hcs.2 hdg (fun q H1 hP hD hS => kk q H1 ⟨hP, hD, hS⟩)
theorem rNewI (M : MC p s m args meth c cc n own g A) (hW : WD g s A ws H locs) (h1 : Cond.arrayClass .int ∈ U0) {x : Int32} {N : Nat} (hx0 : ¬ x < 0) (hN : x.toNatClampNeg = N) (hby : N * 4 ≤ 536870912) (hcs : cells + 1 ≤ R.cells ∧ slots + N ≤ R.slots) (hdg : decode cc pc = .ok (.newarray .int, 2))
    (kk : ∀ (q : Nat) (H1 : Heap), WD g s A (ws ++ [ia g q N (fun _ => 0)]) H1 locs → W p l e R s m args below meth c H1 locs (cells + 1) (slots + N) Q (F0 m (pc + 2) ls (.ref q :: rest))) : W p l e R s m args below meth c H locs cells slots Q (F0 m pc ls (.int x :: rest)) := by
  refine va_newa (D := gD g) (atype := .int) (ty := .int) (a0 := (N, .inl (fun _ => 0))) M.1 M.2.1 (M.2.2.2.2.1 _ h1) rfl M.2.2.2.2.2.2.1 hW.1 hW.2.1 hW.2.2 M.2.2.2.2.2.1 (fun _ => rfl) hx0 hN hby hcs.1 hcs.2 hdg (fun q cA H1 hK hP hD hS => ?_)
  have e1 : va_RA s cA .int := (hK.2 4 (cA, .int) rfl).2
  have e2 : va_RA s (gI g) .int := (M.2.2.2.2.2.2.1.2 0 (gI g, .int) rfl).2
  have e3 : cA = gI g := Option.some.inj ((show s.vm.findClass _ = some cA from e1).symm.trans e2)
  subst e3
  exact kk q H1 ⟨hP, hD, hS⟩
theorem rNewZ (M : MC p s m args meth c cc n own g A) (hW : WD g s A ws H locs) (h1 : Cond.arrayClass .boolean ∈ U0) {x : Int32} {N : Nat} (hx0 : ¬ x < 0) (hN : x.toNatClampNeg = N) (hby : N * 4 ≤ 536870912) (hcs : cells + 1 ≤ R.cells ∧ slots + N ≤ R.slots) (hdg : decode cc pc = .ok (.newarray .boolean, 2))
    (kk : ∀ (q : Nat) (H1 : Heap), WD g s A (ws ++ [za g q N (fun _ => 0)]) H1 locs → W p l e R s m args below meth c H1 locs (cells + 1) (slots + N) Q (F0 m (pc + 2) ls (.ref q :: rest))) : W p l e R s m args below meth c H locs cells slots Q (F0 m pc ls (.int x :: rest)) := by
  refine va_newa (D := gD g) (atype := .boolean) (ty := .boolean) (a0 := (N, .inl (fun _ => 0))) M.1 M.2.1 (M.2.2.2.2.1 _ h1) rfl M.2.2.2.2.2.2.1 hW.1 hW.2.1 hW.2.2 M.2.2.2.2.2.1 (fun _ => rfl) hx0 hN (Nat.le_trans (Nat.mul_le_mul_left N (by decide)) hby) hcs.1 hcs.2 hdg (fun q cA H1 hK hP hD hS => ?_)
  have e1 : va_RA s cA .boolean := (hK.2 4 (cA, .boolean) rfl).2
  have e2 : va_RA s (gZ g) .boolean := (M.2.2.2.2.2.2.1.2 1 (gZ g, .boolean) rfl).2
  have e3 : cA = gZ g := Option.some.inj ((show s.vm.findClass _ = some cA from e1).symm.trans e2)
  subst e3
  exact kk q H1 ⟨hP, hD, hS⟩
theorem rNewL (M : MC p s m args meth c cc n own g A) (hW : WD g s A ws H locs) (h1 : Cond.arrayClass .long ∈ U0) {x : Int32} {N : Nat} (hx0 : ¬ x < 0) (hN : x.toNatClampNeg = N) (hby : N * 8 ≤ 536870912) (hcs : cells + 1 ≤ R.cells ∧ slots + N ≤ R.slots) (hdg : decode cc pc = .ok (.newarray .long, 2))
    (kk : ∀ (q : Nat) (H1 : Heap), WD g s A (ws ++ [la g q N (fun _ => 0)]) H1 locs → W p l e R s m args below meth c H1 locs (cells + 1) (slots + N) Q (F0 m (pc + 2) ls (.ref q :: rest))) : W p l e R s m args below meth c H locs cells slots Q (F0 m pc ls (.int x :: rest)) := by
  refine va_newa (D := gD g) (atype := .long) (ty := .long) (a0 := (N, .inr (.inl (fun _ => 0)))) M.1 M.2.1 (M.2.2.2.2.1 _ h1) rfl M.2.2.2.2.2.2.1 hW.1 hW.2.1 hW.2.2 M.2.2.2.2.2.1 (fun _ => rfl) hx0 hN hby hcs.1 hcs.2 hdg (fun q cA H1 hK hP hD hS => ?_)
  have e1 : va_RA s cA .long := (hK.2 4 (cA, .long) rfl).2
  have e2 : va_RA s (gJ g) .long := (M.2.2.2.2.2.2.1.2 2 (gJ g, .long) rfl).2
  have e3 : cA = gJ g := Option.some.inj ((show s.vm.findClass _ = some cA from e1).symm.trans e2)
  subst e3
  exact kk q H1 ⟨hP, hD, hS⟩
theorem rNewR (M : MC p s m args meth c cc n own g A) (hW : WD g s A ws H locs) (h0 : Cond.classLink own idx "FieldRows$Ring" ∈ U0) {x : Int32} {N : Nat} (hx0 : ¬ x < 0) (hN : x.toNatClampNeg = N) (hby : N * 4 ≤ 536870912) (hcs : cells + 1 ≤ R.cells ∧ slots + N ≤ R.slots) (hdg : decode cc pc = .ok (.anewarray idx, 3))
    (kk : ∀ (q : Nat) (H1 : Heap), WD g s A (ws ++ [ra g q N (fun _ => none)]) H1 locs → W p l e R s m args below meth c H1 locs (cells + 1) (slots + N) Q (F0 m (pc + 3) ls (.ref q :: rest))) : W p l e R s m args below meth c H locs cells slots Q (F0 m pc ls (.int x :: rest)) := by
  refine va_newq (D := gD g) M.1 M.2.1 M.2.2.2.1 (M.2.2.2.2.1 _ h0) M.2.2.2.2.2.2.2.2.2.2.2.2.2.2.2.2.2.2 M.2.2.2.2.2.2.1 hW.1 hW.2.1 hW.2.2 M.2.2.2.2.2.1 hx0 hN hby hcs.1 hcs.2 hdg (fun q cA H1 hK hP hD hS => ?_)
  have e1 : va_RA s cA (.object "FieldRows$Ring") := (hK.2 4 (cA, .object "FieldRows$Ring") rfl).2
  have e2 : va_RA s (gR g) (.object "FieldRows$Ring") := (M.2.2.2.2.2.2.1.2 3 (gR g, .object "FieldRows$Ring") rfl).2
  obtain ⟨-, -, -, -, -, e1'⟩ := e1
  obtain ⟨-, -, -, -, -, e2'⟩ := e2
  have e3 : cA = gR g := Option.some.inj (e1'.symm.trans e2')
  subst e3
  exact kk q H1 ⟨hP, hD, hS⟩
theorem rPutF (M : MC p s m args meth c cc n own g A) (hW : WD g s A ws H locs) (hin : meth.name = "<init>") (q0 k : Nat) {ci N : Nat} {C : String} {T : u_T} {fs : List Value} (ty0 : Nat → FieldType) (hty : ∀ k, k < N → parseFieldDescriptor (T k).2.2.1 = some (ty0 k)) (hnm : ∀ a, a < N → ∀ b, b < N → a ≠ b → (T a).2.1 ≠ (T b).2.1) (hU : ∀ w ∈ u_ws C T N, w ∈ U0) (he : ws[q0]? = some (a, .inr (ci, fs))) (hc : vwCl[ci]? = some (C, T, N)) (hk : k < N) (hlink : Cond.fieldLink own idx (T k).1 (T k).2.1 (T k).2.2.1 ∈ U0) (hfin : (T k).2.2.2 = true) (hdecl : (T k).1 = own) {v : Value} (hn : narrow (ty0 k) v = v) (hfit : fits (ty0 k) v = true) (hl : k < fs.length) (hdg : decode cc pc = .ok (.putfield idx, 3))
    {ws' : va_W} (hws : ws.set q0 (a, .inr (ci, fs.set k v)) = ws')
    (kk : ∀ (H1 : Heap) (locs1 : List Loc), WD g s A ws' H1 locs1 → W p l e R s m args below meth c H1 locs1 cells slots Q (F0 m (pc + 3) ls rest)) : W p l e R s m args below meth c H locs cells slots Q (F0 m pc ls (v :: .ref a :: rest)) := by
  subst hws
  exact va_putF (D := gD g) M.1 M.2.1 M.2.2.2.2.1 hU ty0 hty hnm M.2.2.2.1 M.2.2.2.2.2.2.1 hW.1 hW.2.1 hW.2.2 q0 he hc k hk (M.2.2.2.2.1 _ hlink) (fun _ h => h) hfin hin hdecl (hty k hk) hn hfit hl hdg (fun H1 locs1 hP hD hS => kk H1 locs1 ⟨hP, hD, hS⟩)
theorem rAast (M : MC p s m args meth c cc n own g A) (hW : WD g s A ws H locs) (q0 qk : Nat) {N v : Nat} {vs : List Value} {f f' : Nat → Option Nat} (ha : ws[q0]? = some (ra g a N f)) (hv : ws[qk]? = some (ob v 5 vs)) {i : Int32} (hin : ix i N = true) (hf : f' = va_up f i.toNatClampNeg (some v)) {ws' : va_W} (hws : ws.set q0 (ra g a N f') = ws') (hdg : decode cc pc = .ok (.aastore, 1))
    (kk : ∀ (H1 : Heap) (locs1 : List Loc), WD g s A ws' H1 locs1 → W p l e R s m args below meth c H1 locs1 cells slots Q (F0 m (pc + 1) ls rest)) : W p l e R s m args below meth c H locs cells slots Q (F0 m pc ls (.ref v :: .int i :: .ref a :: rest)) := by
  subst hf
  subst hws
  exact va_astq (D := gD g) M.1 M.2.1 M.2.2.2.2.2.2.1 hW.1 hW.2.1 hW.2.2 q0 3 qk 5 ha rfl hv rfl (ix_in hin) hdg (fun H1 locs1 hP hD hS => kk H1 locs1 ⟨hP, hD, hS⟩)
/-- a constructor is called -/
theorem callN {S : Type} {y : MethodName} {cy : ByteArray} {ny f0 k0 mc ms na b : Nat} {As av : List Value} {wc : va_W} {w1 : S → va_W}
    (M : MC p s m args meth c cc n own g A) (hls : ls.size = n) (hW : WD g s A ws H locs) (hM : CtN l g y cy ny f0 k0 mc ms av wc w1) (hav : av = .ref b :: As)
    (isC isR pm : List Nat) (hC : isC.map (fun i => ws[i]?) = wc.map some) (hCn : va_nd isC = true) (hR : isR.map (fun i => ws[i]?) = (pk9 ws isR).map some) (hn : va_nd isR = true) (hdis : isR.all (fun i => !isC.contains i) = true) {ws2 : S → va_W} (hpn : va_nd pm = true) (hpm : ∀ u, pm.map (fun i => (pk9 ws isR ++ w1 u)[i]?) = (ws2 u).map some)
    (hcode : Cond.code y cy ny none ∈ U0) (hl : Cond.methodLink own idx y ∈ U0) (hin : Cond.instanceMethod y ∈ U0) (hini : Cond.initialized y.cls ∈ U0) (hy1 : y.name = "<init>")
    (hd : y.cls ≠ "java/lang/invoke/MethodHandle" ∧ y.cls ≠ "java/lang/invoke/VarHandle" ∧ (parseMethodDescriptor y.desc).map (fun d => d.parameters.length) = some na) (hna : As.length = na)
    (hRm : f0 + 1 ≤ R.frames ∧ 8 + (ny + 11) + k0 ≤ R.locals) (hrest : (rest.map fun v => v.category).sum ≤ 8) (hcs : cells + mc ≤ R.cells ∧ slots + ms ≤ R.slots) (hdg : decode cc pc = .ok (.invokespecial idx, 3))
    (kk : ∀ (u : S) (H1 : Heap) (locs1 : List Loc), WD g s A (ws2 u) H1 locs1 → W p l e R s m args below meth c H1 locs1 (cells + mc) (slots + ms) Q (F0 m (pc + 3) ls rest)) : W p l e R s m args below meth c H locs cells slots Q (F0 m pc ls (As.reverse ++ .ref b :: rest)) := by
  subst hav
  have hF := va_free (wc := wc) hW.2.1 hW.2.2 M.2.2.2.2.2.1 isC hC
  refine va_callv (A1 := va_A wc H.size) (va_runI (As := As) (rest := rest) ⟨M.1, M.2.1, M.2.2.1, M.2.2.2.1, M.2.2.2.2.1⟩ (hM H.size) (cw := ⟨callB_of na M.2.2.2.2.1 (u0_good hcode) rfl rfl rfl (M.2.2.2.2.1 _ hini) (M.2.2.2.2.1 _ hl) hd hRm, hy1, M.2.2.2.2.1 _ hin⟩) ⟨pre9_blind, pre9_of M hW isC hC hCn⟩ rfl hna hls rfl (lv_room hrest) hdg hcs) hW.2.2 (fun q _ h => hF q h) hF (fun u t H1 locs1 ht hvm hw hB hz1 hk1 hS1 => ?_)
  obtain ⟨hP1, hD1⟩ := hB
  rw [ht] at hP1
  exact kk u H1 locs1 (join9 M hW isC isR pm hC hR hn hdis hpn (hpm u) hk1 hP1 hD1 hS1)
theorem callNN {S : Type} {y : MethodName} {cy : ByteArray} {ny f0 k0 mc ms na b : Nat} {host : String} {As av : List Value} {wc : va_W} {w1 : S → va_W}
    (M : MC p s m args meth c cc n own g A) (hls : ls.size = n) (hW : WD g s A ws H locs) (hM : CtN l g y cy ny f0 k0 mc ms av wc w1) (hav : av = .ref b :: As)
    (isC isR pm : List Nat) (hC : isC.map (fun i => ws[i]?) = wc.map some) (hCn : va_nd isC = true) (hR : isR.map (fun i => ws[i]?) = (pk9 ws isR).map some) (hn : va_nd isR = true) (hdis : isR.all (fun i => !isC.contains i) = true) {ws2 : S → va_W} (hpn : va_nd pm = true) (hpm : ∀ u, pm.map (fun i => (pk9 ws isR ++ w1 u)[i]?) = (ws2 u).map some)
    (hcode : Cond.code y cy ny none ∈ U0) (hl : va_Nw (.methodLinkNest own idx y host) s) (hin : Cond.instanceMethod y ∈ U0) (hini : Cond.initialized y.cls ∈ U0) (hy1 : y.name = "<init>")
    (hd : y.cls ≠ "java/lang/invoke/MethodHandle" ∧ y.cls ≠ "java/lang/invoke/VarHandle" ∧ (parseMethodDescriptor y.desc).map (fun d => d.parameters.length) = some na) (hna : As.length = na)
    (hRm : f0 + 1 ≤ R.frames ∧ 8 + (ny + 11) + k0 ≤ R.locals) (hrest : (rest.map fun v => v.category).sum ≤ 8) (hcs : cells + mc ≤ R.cells ∧ slots + ms ≤ R.slots) (hdg : decode cc pc = .ok (.invokespecial idx, 3))
    (kk : ∀ (u : S) (H1 : Heap) (locs1 : List Loc), WD g s A (ws2 u) H1 locs1 → W p l e R s m args below meth c H1 locs1 (cells + mc) (slots + ms) Q (F0 m (pc + 3) ls rest)) : W p l e R s m args below meth c H locs cells slots Q (F0 m pc ls (As.reverse ++ .ref b :: rest)) := by
  subst hav
  have hF := va_free (wc := wc) hW.2.1 hW.2.2 M.2.2.2.2.2.1 isC hC
  refine va_callv (A1 := va_A wc H.size) (va_runIN (host := host) (As := As) (rest := rest) ⟨M.1, M.2.1, M.2.2.1, M.2.2.2.1, M.2.2.2.2.1⟩ (hM H.size) (cw := ⟨va_cnB na M.2.2.2.2.1 (u0_good hcode) rfl rfl rfl hl (M.2.2.2.2.1 _ hini) hd hRm, hy1, M.2.2.2.2.1 _ hin⟩) ⟨pre9_blind, pre9_of M hW isC hC hCn⟩ rfl hna hls rfl (lv_room hrest) hdg hcs) hW.2.2 (fun q _ h => hF q h) hF (fun u t H1 locs1 ht hvm hw hB hz1 hk1 hS1 => ?_)
  obtain ⟨hP1, hD1⟩ := hB
  rw [ht] at hP1
  exact kk u H1 locs1 (join9 M hW isC isR pm hC hR hn hdis hpn (hpm u) hk1 hP1 hD1 hS1)
end NEW9
