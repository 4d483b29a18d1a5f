/-! throw new NoSuchElementException("text"). Its constructor calls its superclass's by entry 13 of its pool; the library's own walk of a throw (ctorThrowS) is bound to entry 7. So the throw is put together here out of three walks of the library: into the constructor (Steps.initColdS), up the chain of constructors and back (Stand.ctorMessageOffV), out by the throw (Stand.athrowLeaves). -/
def fr_nse : String := "java/util/NoSuchElementException"
/-- aload_0, aload_1, invokespecial 13, return -/
def fr_th : ByteArray := ⟨#[0x2a, 0x2b, 0xb7, 0x00, 0x0d, 0xb1]⟩
theorem fr_th0 : decode fr_th 0 = .ok (.aload_n 0, 1) := by decide +kernel
theorem fr_th1 : decode fr_th 1 = .ok (.aload_n 1, 1) := by decide +kernel
theorem fr_th2 : decode fr_th 2 = .ok (.invokespecial 13, 3) := by decide +kernel
theorem fr_th5 : decode fr_th 5 = .ok (.return_, 1) := by decide +kernel
/-- the words of the three constructors below Throwable's -/
def fr_atC : List Cond := Bundle.passSAtoms fr_nse "java/lang/RuntimeException" 13 fr_th ++ Bundle.chainSAtoms "java/lang/RuntimeException" ["java/lang/Exception"]
/-- the words of the object: what it is, which of Throwable's methods it has, where it has Throwable's fields -/
def fr_atO : List Cond :=
  [.instantiable fr_nse 6, .castable fr_nse fr_nse, .selects fr_nse Bundle.tFill Bundle.tFill, .selects fr_nse Bundle.tFill0 Bundle.tFill0,
   .lays fr_nse Bundle.tN "detailMessage" "Ljava/lang/String;", .lays fr_nse Bundle.tN "cause" "Ljava/lang/Throwable;", .lays fr_nse Bundle.tN "suppressedExceptions" Bundle.listD, .lays fr_nse Bundle.tN "stackTrace" Bundle.steD, .lays fr_nse Bundle.tN "backtrace" "Ljava/lang/Object;"]
/-- the words of the throw -/
def fr_atN (own : String) (ic : Nat) : List Cond :=
  Bundle.throwableAtoms ++ (Bundle.throwableSAtoms ++ (fr_atC ++ (fr_atO ++
  [.methodLink own ic (Bundle.initS fr_nse), .isRef (.static Bundle.tN "UNASSIGNED_STACK" Bundle.steD), .isRef (.static Bundle.tN "SUPPRESSED_SENTINEL" Bundle.listD), .lays Bundle.tN Bundle.tN "backtrace" "Ljava/lang/Object;", .fieldLink Bundle.tN 198 Bundle.tN "backtrace" "Ljava/lang/Object;"])))
section NSE7
variable {args : Array Value} {s : State}
theorem fr_chain {pl : Platform} (hpl : pl.magicAccessors = ({} : Platform).magicAccessors) {top : MethodId} (htop : s.methodNamed? (Bundle.initS Bundle.tN) = some top) (h : ∀ w ∈ fr_atC, w.before args s = true) :
    ∃ Ps : List PassC, Ps.length = 3 ∧ (∀ P, P ∈ Ps → P.LinksS pl s) ∧ s.methodNamed? (Bundle.initS fr_nse) = some (firstOf top (Ps.map (·.toPassT))) ∧ PassesOn top (Ps.map (·.toPassT)) := by
  obtain ⟨P, okP, isP, upP⟩ := PassC.ofS_atoms (args := args) (s := s) hpl (X := fr_nse) (Y := "java/lang/RuntimeException") (by decide) (by decide) fr_th0 fr_th1 fr_th2 fr_th5 (fun w hw => h w (List.mem_append_left _ hw))
  obtain ⟨O, Os, num, okO, okOs, isO, toO, onO⟩ := Bundle.chainS (args := args) (s := s) hpl htop ["java/lang/Exception"] "java/lang/RuntimeException" (by decide) (by decide) (fun w hw => h w (List.mem_append_right _ hw))
  refine ⟨P :: O :: Os, congrArg (· + 2) num, fun Q hQ => ?_, isP, Option.some.inj (upP.symm.trans isO), toO, onO⟩
  by_cases e1 : Q = P
  · rw [e1]; exact okP
  · by_cases e2 : Q = O
    · rw [e2]; exact okO
    · exact okOs Q (((List.mem_cons.mp hQ).resolve_left e1 |> List.mem_cons.mp).resolve_left e2)
/-- which method an object of it has -/
theorem fr_pick {l : Launch} {e : Env} (hA : l.admits e) {k : ClassId} {y : MethodName} {mk : MethodId} (hk : s.vm.findClass fr_nse = some k) (hm : s.methodNamed? y = some mk) (hy : y.cls ≠ "java/lang/invoke/MethodHandle" ∧ y.cls ≠ "java/lang/invoke/VarHandle")
    (h : (Cond.selects fr_nse y y).holds args s none s [] = true) : selectMethod e.platform s.vm k mk = .method mk := by
  obtain ⟨k1, r1, m1, ek, er, em, pick, -⟩ := Cond.selects_spec h
  rw [hk] at ek
  rw [hm] at em
  rw [State.methodFound?_of_named hm hy] at er
  rw [← Option.some.inj ek, ← Option.some.inj er, ← Option.some.inj em] at pick
  exact (Launch.admits_selectMethod hA s.vm k mk).trans pick
/-- field f lies in objects of class k -/
def fr_lies (s : State) (c : ClassId) (k : Class) (f : Field) : Prop := k.instanceTypes[f.slot]? = some f.type ∧ ∃ d, Jmm.declares? s.vm f.slot (c + 1) c = some d ∧ d.2.name = f.name
theorem fr_apart {c : ClassId} {k : Class} {f g : Field} (hf : fr_lies s c k f) (hg : fr_lies s c k g) (hn : f.name ≠ g.name) : f.slot ≠ g.slot :=
  hf.2.elim fun _ a => hg.2.elim fun _ b => Cond.laysApart a.1 b.1 a.2 b.2 hn
/-- 'backtrace' is still null when the stack is to be filled in -/
theorem fr_null {c : ClassId} {k : Class} {T : ThrowableT} {fB : Field} {a : Addr} {u0 sen : RefV} {t : ThreadId} (hB : fr_lies s c k fB) (hC : fr_lies s c k T.fCause) (hS : fr_lies s c k T.fStack) (hP : fr_lies s c k T.fSupp)
    (nC : T.fCause.name ≠ fB.name) (nS : T.fStack.name ≠ fB.name) (nP : T.fSupp.name ≠ fB.name) (hty : fB.type = .object "java/lang/Object") : ((preparedCellV T (freshCell c k) a u0 sen).withEntry t).slots[fB.slot]? = some .null := by
  show (((((freshCell c k).slots.setIfInBounds T.fCause.slot (.ref a)).setIfInBounds T.fStack.slot u0.v).setIfInBounds T.fSupp.slot sen.v))[fB.slot]? = some .null
  rw [Array.getElem?_setIfInBounds_ne (fr_apart hP hB nP), Array.getElem?_setIfInBounds_ne (fr_apart hS hB nS), Array.getElem?_setIfInBounds_ne (fr_apart hC hB nC), fresh_default hB.1, hty]
  rfl
end NSE7
section NSE9
variable {p : Program} {l : Launch} {e : Env} {R : Room} {s : State} {m : MethodId} {args : Array Value} {below : List Frame} {meth : Method} {c : Code} {W : State} {cells slots : Nat}
set_option maxHeartbeats 4000000 in
/-- from the constructor's call on, the new object and its text on the stack -/
theorem fr_ctorThrowN (X : Stand p l e R s m args below meth c W [] cells slots) (hexec : p.tables.exec = Jvm.exec) (htr : e.platform.stackTraces = false) {own : String} {ic : Nat} (hown : s.vm.findClass own = some m.cls)
    (h : ∀ w ∈ fr_atN own ic, w.before args s = true) {a : Addr} {cX : ClassId} {kX : Class} (hf : s.vm.findClass fr_nse = some cX) (hk : s.vm.classes[cX]? = some kX) (hcell : W.heap[a]? = some (freshCell cX kX)) (hnew : s.heap.size ≤ a)
    {msg : Value} (hmsg : msg.isRef = true) {pc : Nat} {ls : Array Slot} {rest : List Value} (hsize : ls.size = c.maxLocals)
    (dC : decode c.code pc = .ok (.invokespecial ic, 3)) (dT : decode c.code (pc + 3) = .ok (.athrow, 1)) (hout : ∀ x ∈ c.exceptionTable.toList, covers x (pc + 3) = false)
    (hRf : 6 ≤ R.frames) (hRl : (rest.map fun v => v.category).sum + 82 ≤ R.locals) (hlocks : meth.locks = false) :
    ∃ U : State, Steps p.tables e below (W.setTop (F0 m pc ls (msg :: .ref a :: .ref a :: rest))) U ∧ U.status = .running ∧ Ended U below (.threw a) ∧ s.WarmedH U.vm ∧ s.sameButNew ({ U with vm := s.vm } : State) [] cells slots ∧
      ∃ ce, U.heap[a]? = some ce ∧ ce.cls = cX ∧ ce.vm = .none := by
  have hmag : e.platform.magicAccessors = ({} : Platform).magicAccessors := by rw [X.admits.platform]
  have inT : ∀ w ∈ Bundle.throwableAtoms, w.before args s = true := fun w hw => h w (List.mem_append_left _ hw)
  have inS : ∀ w ∈ Bundle.throwableSAtoms, w.before args s = true := fun w hw => h w (List.mem_append_right _ (List.mem_append_left _ hw))
  have inC : ∀ w ∈ fr_atC, w.before args s = true := fun w hw => h w (List.mem_append_right _ (List.mem_append_right _ (List.mem_append_left _ hw)))
  have inO : ∀ w ∈ fr_atO, w.holds args s none s [] = true := fun w hw => h w (List.mem_append_right _ (List.mem_append_right _ (List.mem_append_right _ (List.mem_append_left _ hw))))
  have inR : ∀ (i : Nat) (w : Cond), ([Cond.methodLink own ic (Bundle.initS fr_nse), .isRef (.static Bundle.tN "UNASSIGNED_STACK" Bundle.steD), .isRef (.static Bundle.tN "SUPPRESSED_SENTINEL" Bundle.listD), .lays Bundle.tN Bundle.tN "backtrace" "Ljava/lang/Object;", .fieldLink Bundle.tN 198 Bundle.tN "backtrace" "Ljava/lang/Object;"] : List Cond)[i]? = some w → w.holds args s none s [] = true :=
    fun i w hw => h w (List.mem_append_right _ (List.mem_append_right _ (List.mem_append_right _ (List.mem_append_right _ (List.mem_of_getElem? hw)))))
  -- Throwable, its constructor of a text, and the constructors that hand on to it
  obtain ⟨T, _, okT, -, tie⟩ := ThrowableC.of_atoms (args := args) (s := s) (pl := e.platform) (by rw [X.admits.platform]) (by rw [X.admits.platform]) hmag inT
  obtain ⟨Z, G, okZ, okG, isZ⟩ := Init0T.ofS_atoms (args := args) hmag okT tie inS
  obtain ⟨Ps, num, okP, isP, onP⟩ := fr_chain (args := args) hmag isZ inC
  -- the object: its class, and Throwable's fields in it
  have ord : kX.kind = .ordinary := by
    obtain ⟨c1, k1, e1, e2, o1, -⟩ := Cond.instantiable_spec (inO (.instantiable fr_nse 6) (by decide))
    rw [hf] at e1
    rw [← Option.some.inj e1, hk] at e2
    rw [Option.some.inj e2]
    exact o1
  have lies : ∀ {nm de : String} {c1 i1 : Nat} {k1 : Class} {f : Field}, s.fieldFound? Bundle.tN nm de = some (c1, k1, i1, f) → Cond.lays fr_nse Bundle.tN nm de ∈ fr_atO → fr_lies s cX kX f := fun hff hin => Cond.laysAt hf hk hff (inO _ hin)
  obtain ⟨_, msgAt⟩ := tie.msg
  have fC := lies tie.cause (by decide)
  have fS := lies tie.stack (by decide)
  have fP := lies tie.supp (by decide)
  have fM := lies msgAt (by decide)
  obtain ⟨bc, bi, bf, b1, b2, b3, b4, -, bn, bt, backAt⟩ := Cond.ownField (t := .object "java/lang/Object") tie.found okT.cls (by decide +kernel) (inR 4 _ rfl) (inR 3 _ rfl) e.platform hmag
  have fB := lies backAt (by decide)
  have skip : ∀ (u0 sen : RefV), SkipFacts T e.platform s (fun u => u) u0 ((preparedCellV T.toThrowableT (freshCell cX kX) a u0 sen).withEntry W.cur) := fun u0 sen =>
    ⟨⟨bc, bi, bf⟩, ⟨b1, b2, b3, b4⟩, fr_null fB fC fS fP (by rw [bn, tie.causeName]; decide) (by rw [bn, tie.stackName]; decide) (by rw [bn, tie.suppName]; decide) bt, fun _ _ => rfl⟩
  -- Throwable's two statics: no old cell has changed
  obtain ⟨cS, atS, isS⟩ := tie.statics
  obtain ⟨u0, hu0⟩ := Cond.staticRefV tie.unassigned okT.unassignedStatic okT.statics atS isS (inR 1 _ rfl)
  obtain ⟨sen, hsen⟩ := Cond.staticRefV tie.sentinel okT.sentinelStatic okT.statics atS isS (inR 2 _ rfl)
  have old : T.aS < s.heap.size := (Array.getElem?_eq_some_iff.mp atS).1
  have nowS : W.heap[T.aS]? = some cS := ((vx_frame (U := W) X.same).2 T.aS old (fun _ hz => nomatch hz)).trans atS
  have known : cS.vm ≠ .unknown := fun hu => by
    rw [hu] at isS
    cases isS
  -- into the constructor
  obtain ⟨mk, _, _, _, vm1, isK, -, -, -, -, -, -, -, warm1, enter⟩ := Steps.initColdS (tb := p.tables) (below := below) X.here hexec X.warmed hmag hown (t := Bundle.initS fr_nse) rfl rfl (by decide) (inR 0 _ rfl) (inC _ (by decide)) (bytes := fr_th) (maxL := 2) (inC _ (by decide))
    (f := F0 m pc ls (msg :: .ref a :: .ref a :: rest)) rfl (rest := .ref a :: rest) rfl dC
  rw [isP] at isK
  have eK := Option.some.inj isK
  -- up the chain and back
  obtain ⟨vm2, X2, back⟩ := (X.noted warm1).ctorMessageOffV hexec (g := F0 m pc ls (.ref a :: rest)) rfl hsize T okT Z okZ G okG Ps okP onP (u0 := u0) (sen := sen) hmsg (cellS := cS) hcell (fun _ hh => nomatch hh) (fun hh => nomatch hh) rfl rfl
    (fr_pick X.admits hf tie.fill0 (by decide) (inO _ (by decide))) (fr_pick X.admits hf tie.fill (by decide) (inO _ (by decide))) nowS (Nat.ne_of_lt (Nat.lt_of_lt_of_le old hnew)) known hu0 hsen
    (Takes.of_laid hk ord fC.1 (by rw [tie.causeType]; rfl)) (Takes.of_laid hk ord fS.1 (by rw [tie.stackType]; exact fits_refV_array _ u0)) (Takes.of_laid hk ord fP.1 (by rw [tie.suppType]; exact fits_refV_object _ sen)) (Takes.of_laid hk ord fM.1 (by rw [tie.msgType]; exact fits_refV_object _ ⟨msg, hmsg⟩))
    tie.objLocals (skip u0 sen) htr [] dC (by rw [num]; omega) (by rw [num]; show 2 * 0 + (1 + (rest.map fun v => v.category).sum) + (13 * 3 + 42) ≤ R.locals; omega)
  -- out by the throw
  obtain ⟨leave, run, ended, warm, same⟩ := X2.athrowLeaves hexec (g := F0 m (pc + 3) ls (.ref a :: rest)) rfl rfl rfl hout (a := a) (rest := rest) rfl dT hlocks
  have hlt : a < ((W.setVm vm1).setVm vm2).heap.size := (Array.getElem?_eq_some_iff.mp hcell).1
  refine ⟨_, enter _ (fun acts => ?_), run, ended, warm, same.weaken (fun z hz hz2 => ?_) (Nat.le_refl _) (Nat.le_refl _), _, heapAt_setCell_self _ hlt, rfl, rfl⟩
  · rw [← eK, doInvoke_state]
    exact back _ leave
  · have hz3 : z.base = a := by
      revert z
      simp
    exact absurd hz2 (Nat.not_lt.mpr (hz3 ▸ hnew))
end NSE9
def fr_atNf (own : String) (ic : Nat) : List Cond := (fr_atN own ic).filter vx_no
section NSE8
variable {p : Program} {l : Launch} {e : Env} {R : Room} {s : State} {m : MethodId} {args : Array Value} {below : List Frame} {meth : Method} {c : Code} {H : Heap} {locs : List Loc} {cells slots : Nat} {Q : State → Prop}
variable {g : G9} {A : Nat → Prop} {cc : ByteArray} {n : Nat} {wc : va_W} {pc : Nat} {ls : Array Slot} {rest : List Value} {Qn : Array Value → State → Outcome → State → Prop}
theorem rThrowN {text : String} {ik is ic : Nat} (hl9 : l.stackTraces = false) (M : MC p s m args meth c cc n RX9 g A) (hls : ls.size = n) (hW : WD g s A wc H locs) (hlocks : meth.locks = false) (hex : ∀ x ∈ c.exceptionTable.toList, False) (hA : A = va_A wc s.heap.size) (hQ : Q = vx_MQ below Qn (XC9 g wc s.heap.size fr_nse) args s 1 6 (va_A wc s.heap.size))
    (hk : Cond.classLink RX9 ik fr_nse ∈ U0) (hini : Cond.initialized fr_nse ∈ U0) (hstr : (is, text) ∈ strL)
    (hg : ∀ w ∈ (fr_atNf RX9 ic).filter goodWord, w ∈ U0) (hb9 : (fr_atNf RX9 ic).filter (fun w => !goodWord w) = xB fr_nse)
    (hot : (fr_atNf RX9 ic).all vx_ot = true) (hRm : 6 ≤ R.frames ∧ 90 ≤ R.locals) (hrest : (rest.map fun v => v.category).sum ≤ 8) (hcs : 1 ≤ R.cells ∧ 6 ≤ R.slots)
    (d0 : decode cc pc = .ok (.new ik, 3)) (d3 : decode cc (pc + 3) = .ok (.dup, 1)) (d4 : decode cc (pc + 4) = .ok (.ldc is, 2)) (d6 : decode cc (pc + 6) = .ok (.invokespecial ic, 3)) (d9 : decode cc (pc + 9) = .ok (.athrow, 1)) :
    W p l e R s m args below meth c H locs 0 0 Q (F0 m pc ls rest) := by
  subst hQ
  have hu := M.2.2.2.2.1
  have kx := M.2.2.2.2.2.2
  obtain ⟨sa, hsa⟩ := kx.2.2.2.2.2.2.1 _ hstr
  have ex := kx.2.2.2.2.2.2.2
  have hown := M.2.2.2.1
  have hexec := M.1
  have hb := M.2.1
  have hU := kx.2.2.2.2.1
  have hN := kx.2.2.2.2.2.1
  have hS := hW.2.2
  have hat : ∀ w ∈ fr_atNf RX9 ic, w.before args s = true :=
    vx_hat (B := xB fr_nse) (fun w hw => hu w (hg w hw)) (fun w hw => by rw [hb9] at hw; exact hw) (vx_c (va_Nw.use rfl ex.1) (vx_c (va_Nw.use rfl ex.2.1) (vx_c (va_Nw.use rfl ex.2.2.1) (vx_c (va_Nw.use rfl (ex.2.2.2.1 _ (by decide))) vx_n))))
  intro T hT X
  have htr : e.platform.stackTraces = false := (show e.platform.stackTraces = l.stackTraces by rw [X.admits.platform]).trans hl9
  have Y := vx_rebase X (R' := { frames := R.frames, locals := R.locals, cells := 1, slots := 6 }) (Nat.le_refl _) (Nat.le_refl _) (by show 0 + 1 ≤ R.cells; omega) (by show 0 + 6 ≤ R.slots; omega)
  obtain ⟨s', hA9⟩ : ∃ z, z = (T.setVm s.vm).setFrames (.invoking m args :: below) := ⟨_, rfl⟩
  rw [← hA9] at Y
  have hvm : s'.vm = s.vm := by rw [hA9]; rfl
  have hhp : s'.heap = H := by rw [hA9]; exact hT
  have hW0 : s.WarmedH s'.vm := by rw [hvm]; exact State.WarmedH.refl s
  have hat' : ∀ w ∈ fr_atNf RX9 ic, w.before args s' = true := fun w hw => vx_ot_at hW0 hvm.symm (List.all_eq_true.mp hot w hw) (hat w hw)
  have hk' : (Cond.classLink RX9 ik fr_nse).before args s' = true := vx_ot_at hW0 hvm.symm rfl (hu _ hk)
  have hini' : (Cond.initialized fr_nse).before args s' = true := vx_ot_at hW0 hvm.symm rfl (hu _ hini)
  have hU' : vx_Zq Bundle.tN "UNASSIGNED_STACK" Bundle.steD A s' s'.heap := by rw [hhp]; exact vx_Zq.moved hW0.alike (hU.kept hS.2.1)
  have hN' : vx_Zq Bundle.tN "SUPPRESSED_SENTINEL" Bundle.listD A s' s'.heap := by rw [hhp]; exact vx_Zq.moved hW0.alike (hN.kept hS.2.1)
  have h : ∀ w ∈ fr_atN RX9 ic, w.before args s' = true := vx_own hat' (vx_isRefq hU'.1) (vx_isRefq hN'.1) hU'.2.word hN'.2.word
  have hown' : s'.vm.findClass RX9 = some m.cls := by rw [hvm]; exact hown
  have hins : (Cond.instantiable fr_nse 6).before args s' = true := h _ (by simp [fr_atN, fr_atO])
  obtain ⟨vm₁, cX, kX, hfX, hkX, -, -, X₁, st1⟩ := Y.newCold hexec (own := RX9) (C := fr_nse) (index := ik) (n := 6) hown' hk' hins hini'
    (g := F0 m pc ls rest) rfl (by rw [hb]; exact d0) (Nat.le_refl _) (Nat.le_refl _)
  generalize hT1 : (T.setVm vm₁).pushCell { cls := cX, slots := kX.instanceTypes.map defaultValue, vm := .none } = T1 at X₁ st1
  have hcellA : T1.heap[T.heap.size]? = some (freshCell cX kX) := by rw [← hT1]; exact State.heap_pushCell_size _ _
  have d3' : decode c.code (pc + 3) = .ok (.dup, 1) := by rw [hb]; exact d3
  have d4' : decode c.code (pc + 4) = .ok (.ldc is, 2) := by rw [hb]; exact d4
  have hstr' : vk_R RX9 is text sa s' := vk_R.warm hW0 hsa
  obtain ⟨U, hsteps, hrun, hend, hWm, hsame, ce, hce, hclN, hvmN⟩ := fr_ctorThrowN X₁ hexec htr (own := RX9) (ic := ic) hown' h hfX hkX hcellA (by rw [hhp, hT]; exact Nat.le_refl _) (msg := .ref sa) rfl (pc := pc + 6) (ls := ls) (rest := rest) (hls.trans M.2.2.1.symm)
    (by rw [hb]; exact d6) (by rw [hb]; exact d9) (fun x hx => (hex x hx).elim) hRm.1 (by show _ + 82 ≤ R.locals; omega) hlocks
  obtain ⟨f1, f2⟩ := vx_frame hsame
  rw [hhp] at f1 f2
  have hWs : s.WarmedH U.vm := State.WarmedH.trans hW0 hWm
  have hcl : s.vm.findClass fr_nse = some ce.cls := by
    rw [hclN, ← hvm]
    exact hfX
  have hall : s.sameButNew ({ U with vm := s.vm } : State) locs 1 6 := by
    subst hA9
    obtain ⟨e1, e2⟩ := hsame
    rw [State.setFrames_setFrames] at e1
    have h2 : (T.setVm s.vm).sameButNew ({ U with vm := s.vm } : State) [] (0 + 1) (0 + 6) := ⟨e1, e2⟩
    have h3 := X.same.trans h2
    rw [List.append_nil] at h3
    exact h3.mono (by omega) (by omega)
  refine ⟨U, ?_, .threw T.heap.size, hrun, hend, Or.inr ⟨T.heap.size, rfl, fr_nse, ce, locs, xc9_of hA hW f1 (fun q hq => f2 q hq (fun z hz => nomatch hz)), hce, hvmN, hcl, hWs, hall, by rw [← hA]; exact hS.2.2⟩⟩
  refine st1 _ ?_
  show Steps p.tables e below (T1.setTop { method := m, pc := pc + 3, locals := ls, stack := .ref T.heap.size :: rest, locked := none }) _
  jvm_step X₁.here [X₁.here.top, hexec, d3', Value.category]
  exact X₁.ldcString hexec (own := RX9) (text := text) (index := is) (a := sa) hown' hstr'.1 hstr'.2
    (g := { method := m, pc := pc + 4, locals := ls, stack := .ref T.heap.size :: .ref T.heap.size :: rest, locked := none }) rfl d4' _ hsteps
theorem rThrowNW {text : String} {ik is ic : Nat} (hl9 : l.stackTraces = false) (M : MC p s m args meth c cc n RX9 g A) (hls : ls.size = n) (hW : WD g s A wc H locs) (hlocks : meth.locks = false) (hex : ∀ x ∈ c.exceptionTable.toList, False) (hA : A = va_A wc s.heap.size) (hQ : Q = vx_MQ below Qn (XC9 g wc s.heap.size fr_nse) args s 1 6 (va_A wc s.heap.size))
    (hk : Cond.classLink RX9 ik fr_nse ∈ U0) (hini : Cond.initialized fr_nse ∈ U0) (hstr : (is, text) ∈ strL)
    (hg : ∀ w ∈ (fr_atNf RX9 ic).filter goodWord, w ∈ U0) (hb9 : (fr_atNf RX9 ic).filter (fun w => !goodWord w) = xB fr_nse)
    (hot : (fr_atNf RX9 ic).all vx_ot = true) (hRm : 6 ≤ R.frames ∧ 90 ≤ R.locals) (hrest : (rest.map fun v => v.category).sum ≤ 8) (hcs : 1 ≤ R.cells ∧ 6 ≤ R.slots)
    (d0 : decode cc pc = .ok (.new ik, 3)) (d3 : decode cc (pc + 3) = .ok (.dup, 1)) (d4 : decode cc (pc + 4) = .ok (.ldc_w is, 3)) (d6 : decode cc (pc + 7) = .ok (.invokespecial ic, 3)) (d9 : decode cc (pc + 10) = .ok (.athrow, 1)) :
    W p l e R s m args below meth c H locs 0 0 Q (F0 m pc ls rest) := by
  subst hQ
  have hu := M.2.2.2.2.1
  have kx := M.2.2.2.2.2.2
  obtain ⟨sa, hsa⟩ := kx.2.2.2.2.2.2.1 _ hstr
  have ex := kx.2.2.2.2.2.2.2
  have hown := M.2.2.2.1
  have hexec := M.1
  have hb := M.2.1
  have hU := kx.2.2.2.2.1
  have hN := kx.2.2.2.2.2.1
  have hS := hW.2.2
  have hat : ∀ w ∈ fr_atNf RX9 ic, w.before args s = true :=
    vx_hat (B := xB fr_nse) (fun w hw => hu w (hg w hw)) (fun w hw => by rw [hb9] at hw; exact hw) (vx_c (va_Nw.use rfl ex.1) (vx_c (va_Nw.use rfl ex.2.1) (vx_c (va_Nw.use rfl ex.2.2.1) (vx_c (va_Nw.use rfl (ex.2.2.2.1 _ (by decide))) vx_n))))
  intro T hT X
  have htr : e.platform.stackTraces = false := (show e.platform.stackTraces = l.stackTraces by rw [X.admits.platform]).trans hl9
  have Y := vx_rebase X (R' := { frames := R.frames, locals := R.locals, cells := 1, slots := 6 }) (Nat.le_refl _) (Nat.le_refl _) (by show 0 + 1 ≤ R.cells; omega) (by show 0 + 6 ≤ R.slots; omega)
  obtain ⟨s', hA9⟩ : ∃ z, z = (T.setVm s.vm).setFrames (.invoking m args :: below) := ⟨_, rfl⟩
  rw [← hA9] at Y
  have hvm : s'.vm = s.vm := by rw [hA9]; rfl
  have hhp : s'.heap = H := by rw [hA9]; exact hT
  have hW0 : s.WarmedH s'.vm := by rw [hvm]; exact State.WarmedH.refl s
  have hat' : ∀ w ∈ fr_atNf RX9 ic, w.before args s' = true := fun w hw => vx_ot_at hW0 hvm.symm (List.all_eq_true.mp hot w hw) (hat w hw)
  have hk' : (Cond.classLink RX9 ik fr_nse).before args s' = true := vx_ot_at hW0 hvm.symm rfl (hu _ hk)
  have hini' : (Cond.initialized fr_nse).before args s' = true := vx_ot_at hW0 hvm.symm rfl (hu _ hini)
  have hU' : vx_Zq Bundle.tN "UNASSIGNED_STACK" Bundle.steD A s' s'.heap := by rw [hhp]; exact vx_Zq.moved hW0.alike (hU.kept hS.2.1)
  have hN' : vx_Zq Bundle.tN "SUPPRESSED_SENTINEL" Bundle.listD A s' s'.heap := by rw [hhp]; exact vx_Zq.moved hW0.alike (hN.kept hS.2.1)
  have h : ∀ w ∈ fr_atN RX9 ic, w.before args s' = true := vx_own hat' (vx_isRefq hU'.1) (vx_isRefq hN'.1) hU'.2.word hN'.2.word
  have hown' : s'.vm.findClass RX9 = some m.cls := by rw [hvm]; exact hown
  have hins : (Cond.instantiable fr_nse 6).before args s' = true := h _ (by simp [fr_atN, fr_atO])
  obtain ⟨vm₁, cX, kX, hfX, hkX, -, -, X₁, st1⟩ := Y.newCold hexec (own := RX9) (C := fr_nse) (index := ik) (n := 6) hown' hk' hins hini'
    (g := F0 m pc ls rest) rfl (by rw [hb]; exact d0) (Nat.le_refl _) (Nat.le_refl _)
  generalize hT1 : (T.setVm vm₁).pushCell { cls := cX, slots := kX.instanceTypes.map defaultValue, vm := .none } = T1 at X₁ st1
  have hcellA : T1.heap[T.heap.size]? = some (freshCell cX kX) := by rw [← hT1]; exact State.heap_pushCell_size _ _
  have d3' : decode c.code (pc + 3) = .ok (.dup, 1) := by rw [hb]; exact d3
  have d4' : decode c.code (pc + 4) = .ok (.ldc_w is, 3) := by rw [hb]; exact d4
  have hstr' : vk_R RX9 is text sa s' := vk_R.warm hW0 hsa
  obtain ⟨U, hsteps, hrun, hend, hWm, hsame, ce, hce, hclN, hvmN⟩ := fr_ctorThrowN X₁ hexec htr (own := RX9) (ic := ic) hown' h hfX hkX hcellA (by rw [hhp, hT]; exact Nat.le_refl _) (msg := .ref sa) rfl (pc := pc + 7) (ls := ls) (rest := rest) (hls.trans M.2.2.1.symm)
    (by rw [hb]; exact d6) (by rw [hb]; exact d9) (fun x hx => (hex x hx).elim) hRm.1 (by show _ + 82 ≤ R.locals; omega) hlocks
  obtain ⟨f1, f2⟩ := vx_frame hsame
  rw [hhp] at f1 f2
  have hWs : s.WarmedH U.vm := State.WarmedH.trans hW0 hWm
  have hcl : s.vm.findClass fr_nse = some ce.cls := by
    rw [hclN, ← hvm]
    exact hfX
  have hall : s.sameButNew ({ U with vm := s.vm } : State) locs 1 6 := by
    subst hA9
    obtain ⟨e1, e2⟩ := hsame
    rw [State.setFrames_setFrames] at e1
    have h2 : (T.setVm s.vm).sameButNew ({ U with vm := s.vm } : State) [] (0 + 1) (0 + 6) := ⟨e1, e2⟩
    have h3 := X.same.trans h2
    rw [List.append_nil] at h3
    exact h3.mono (by omega) (by omega)
  refine ⟨U, ?_, .threw T.heap.size, hrun, hend, Or.inr ⟨T.heap.size, rfl, fr_nse, ce, locs, xc9_of hA hW f1 (fun q hq => f2 q hq (fun z hz => nomatch hz)), hce, hvmN, hcl, hWs, hall, by rw [← hA]; exact hS.2.2⟩⟩
  refine st1 _ ?_
  show Steps p.tables e below (T1.setTop { method := m, pc := pc + 3, locals := ls, stack := .ref T.heap.size :: rest, locked := none }) _
  jvm_step X₁.here [X₁.here.top, hexec, d3', Value.category]
  exact X₁.ldcStringW hexec (own := RX9) (text := text) (index := is) (a := sa) hown' hstr'.1 hstr'.2
    (g := { method := m, pc := pc + 4, locals := ls, stack := .ref T.heap.size :: .ref T.heap.size :: rest, locked := none }) rfl d4' _ hsteps
end NSE8
theorem xg5 : ∀ w ∈ (fr_atNf RX9 167).filter goodWord, w ∈ U0 := by decide +kernel
theorem xb5 : (fr_atNf RX9 167).filter (fun w => !goodWord w) = xB fr_nse := by decide +kernel
theorem xo5 : (fr_atNf RX9 167).all vx_ot = true := by decide +kernel
