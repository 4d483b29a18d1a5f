/-! The frame of every contract: one list of words (U0), one bundle of what never changes (KX), contracts by worlds. -/
/-- class numbers and slots, the array classes (int, boolean, long, Ring), where STEPS lies -/
abbrev G9 : Type := (Nat → ClassId) × (Nat → Nat → Nat) × ClassId × ClassId × ClassId × ClassId × Nat
abbrev gD (g : G9) : va_G := (g.1, g.2.1)
abbrev gI (g : G9) : ClassId := g.2.2.1
abbrev gZ (g : G9) : ClassId := g.2.2.2.1
abbrev gJ (g : G9) : ClassId := g.2.2.2.2.1
abbrev gR (g : G9) : ClassId := g.2.2.2.2.2.1
abbrev gS (g : G9) : Nat := g.2.2.2.2.2.2
abbrev gT (g : G9) : List (ClassId × FieldType) := [(gI g, .int), (gZ g, .boolean), (gJ g, .long), (gR g, .object "FieldRows$Ring")]
abbrev Ar : Type := Nat → Int32
abbrev ia (g : G9) (a n : Nat) (f : Ar) : Nat × va_E := (a, .inl (gI g, n, .inl f))
abbrev za (g : G9) (a n : Nat) (f : Ar) : Nat × va_E := (a, .inl (gZ g, n, .inl f))
abbrev la (g : G9) (a n : Nat) (f : Nat → Int64) : Nat × va_E := (a, .inl (gJ g, n, .inr (.inl f)))
abbrev ra (g : G9) (a n : Nat) (f : Nat → Option Nat) : Nat × va_E := (a, .inl (gR g, n, .inr (.inr (.inr (.inr f)))))
abbrev ob (a ci : Nat) (fs : List Value) : Nat × va_E := (a, .inr (ci, fs))
/-- the four rings in their row -/
abbrev rg (a0 a1 a2 a3 : Nat) : Nat → Option Nat := va_up (va_up (va_up (va_up (fun _ => none) 0 (some a0)) 1 (some a1)) 2 (some a2)) 3 (some a3)
def stepL : List Int32 := [-1, 1, -40, 40, -41, -39, 39, 41]
abbrev stepA : Ar := fun j => stepL.getD j 0
abbrev stF : Nat → Value := fun j => .int (stepA j)
/-- the words of nest mates -/
def NX (U : State) : Prop :=
  va_Nw (.methodLinkNest RX9 15 yX5_init RX9) U ∧ va_Nw (.methodLinkNest RX9 18 yX0_init RX9) U ∧ va_Nw (.methodLinkNest RX0 81 yX9_isSquare RX9) U ∧ va_Nw (.methodLinkNest RX0 84 yX9_squareAt RX9) U ∧
  va_Nw (.fieldLinkNest RX0 58 RX9 "STEPS" "[I" RX9) U ∧ va_Nw (.fieldLinkNest RX6 99 RX9 "STEPS" "[I" RX9) U ∧ va_Nw (.fieldLinkNest RX8 48 RX9 "STEPS" "[I" RX9) U
def strL : List (Nat × String) := [(288, "no such ring"), (87, "no such corner"), (101, "the ring has all its corners"), (118, "no such headland"), (295, "the land is not laid"), (145, "no such slant"), (293, "no such width"), (298, "there are no rows"), (165, "no such row"), (177, "no such thing of a row"), (192, "both ends are of one row"), (300, "there is no plan"), (217, "no such stretch of the plan"), (291, "no such square"), (236, "no such yield"), (242, "no such bearing"), (248, "no such capacity"), (250, "no such weight"), (252, "no such time to unload"), (265, "the plan has no sum"), (272, "no such thing of a run")]
def SX (U : State) : Prop := ∀ q ∈ strL, ∃ sa : Nat, vk_R RX9 q.1 q.2 sa U
def excL : List String := ["java/lang/IndexOutOfBoundsException", "java/lang/IllegalArgumentException", "java/lang/UnsupportedOperationException", "java/lang/IllegalStateException", "java/util/NoSuchElementException"]
abbrev exS (C : String) : MethodName := ⟨C, "<init>", "(Ljava/lang/String;)V"⟩
def EX (U : State) : Prop := va_Nw (.declares (exS "java/lang/RuntimeException")) U ∧ va_Nw (.declares (exS "java/lang/Exception")) U ∧ va_Nw (.declares (exS "java/lang/Throwable")) U ∧ (∀ E ∈ excL, va_Nw (.castable E E) U) ∧ (∀ E ∈ excL, ∀ F ∈ excL, E ≠ F → va_Nc E F U) ∧ va_AO "FieldRows$Ring" U
def KX (g : G9) (A : Nat → Prop) (U : State) (H : Heap) : Prop :=
  va_K (gD g) vwCl (gT g) U ∧ NX U ∧ va_Z RX9 "STEPS" "[I" (.ref (gS g)) A U H ∧ va_T .int (gS g) 8 stF A U H ∧
  vx_Zq Bundle.tN "UNASSIGNED_STACK" Bundle.steD A U H ∧ vx_Zq Bundle.tN "SUPPRESSED_SENTINEL" Bundle.listD A U H ∧ SX U ∧ EX U
theorem SX.warm {s U : State} (hW : s.WarmedH U.vm) (h : SX s) : SX U := fun q hq => (h q hq).imp fun _ h1 => vk_R.warm hW h1
theorem SX.same {u U : State} (e : u.vm = U.vm) (h : SX u) : SX U := fun q hq => (h q hq).imp fun _ h1 => vk_R.same e.symm h1
theorem EX.warm {s U : State} (hW : s.WarmedH U.vm) (h : EX s) : EX U := ⟨h.1.warmD hW, h.2.1.warmD hW, h.2.2.1.warmD hW, fun E hE => (h.2.2.2.1 E hE).warmC hW, fun E hE F hF n => (h.2.2.2.2.1 E hE F hF n).moved hW.alike, h.2.2.2.2.2.moved hW.alike⟩
theorem EX.same {u U : State} (e : u.vm = U.vm) (h : EX u) : EX U := ⟨va_Nw.same rfl e h.1, va_Nw.same rfl e h.2.1, va_Nw.same rfl e h.2.2.1, fun E hE => va_Nw.same rfl e (h.2.2.2.1 E hE), fun E hE F hF n => (h.2.2.2.2.1 E hE F hF n).moved (by rw [e]; exact Vm.Alike.refl _), h.2.2.2.2.2.moved (by rw [e]; exact Vm.Alike.refl _)⟩
theorem NX.warm {s U : State} (hW : s.WarmedH U.vm) (h : NX s) : NX U := by
  obtain ⟨h1, h2, h3, h4, h5, h6, h7⟩ := h
  exact ⟨h1.warmM hW, h2.warmM hW, h3.warmM hW, h4.warmM hW, h5.warmF hW, h6.warmF hW, h7.warmF hW⟩
theorem NX.same {u U : State} (h : u.vm = U.vm) (hZ : NX u) : NX U := by
  obtain ⟨h1, h2, h3, h4, h5, h6, h7⟩ := hZ
  exact ⟨va_Nw.same rfl h h1, va_Nw.same rfl h h2, va_Nw.same rfl h h3, va_Nw.same rfl h h4, va_Nw.same rfl h h5, va_Nw.same rfl h h6, va_Nw.same rfl h h7⟩
theorem KX.warm {g : G9} {A : Nat → Prop} {s U : State} {H : Heap} (hW : s.WarmedH U.vm) (h : KX g A s H) : KX g A U H := by
  obtain ⟨h1, h2, h3, h4, h5, h6, h7, h8⟩ := h
  exact ⟨h1.moved hW.alike, h2.warm hW, h3.moved hW.alike, h4.moved hW.alike, h5.moved hW.alike, h6.moved hW.alike, h7.warm hW, h8.warm hW⟩
theorem KX.same {g : G9} {A : Nat → Prop} {u U : State} {H : Heap} (e : u.vm = U.vm) (h : KX g A u H) : KX g A U H := by
  obtain ⟨h1, h2, h3, h4, h5, h6, h7, h8⟩ := h
  have al : u.vm.Alike U.vm := by rw [e]; exact Vm.Alike.refl _
  exact ⟨h1.moved al, h2.same e, h3.moved al, h4.moved al, h5.moved al, h6.moved al, h7.same e, h8.same e⟩
theorem KX.kept {g : G9} {A : Nat → Prop} {U : State} {H H1 : Heap} (h : KX g A U H) (hq : ∀ a : Nat, a < H.size → ¬ A a → H1[a]? = H[a]?) : KX g A U H1 := by
  obtain ⟨h1, h2, h3, h4, h5, h6, h7⟩ := h
  exact ⟨h1, h2, h3.kept hq, h4.kept hq, h5.kept hq, h6.kept hq, h7⟩
theorem KX.narrow {g : G9} {A B : Nat → Prop} {U : State} {H : Heap} (h : KX g A U H) (hAB : ∀ q, B q → A q) : KX g B U H := by
  obtain ⟨h1, h2, h3, h4, h5, h6, h7⟩ := h
  exact ⟨h1, h2, h3.narrow hAB, h4.narrow hAB, h5.narrow hAB, h6.narrow hAB, h7⟩
/-- a contract's start -/
def Pre9 (g : G9) (av : List Value) (wc : va_W) (sz : Nat) : Array Value → State → Prop := va_Pc av (fun U => U.heap.size = sz ∧ va_P (gD g) vwCl wc U.heap ∧ KX g (va_A wc sz) U U.heap ∧ va_D (fun _ => True) wc)
def Qi9 (g : G9) (wc w1 : va_W) (sz : Nat) (r : Int32) : Array Value → State → Outcome → State → Prop := va_Qi (fun r' (_ : Unit) => r' = r) (fun _ t => va_P (gD g) vwCl w1 t.heap ∧ va_D (va_A wc sz) w1) (va_A wc sz)
def Qv9 (g : G9) (wc w1 : va_W) (sz : Nat) : Array Value → State → Outcome → State → Prop := va_Qv (fun (_ : Unit) => True) (fun _ t => va_P (gD g) vwCl w1 t.heap ∧ va_D (va_A wc sz) w1) (va_A wc sz)
abbrev rm9 (f k : Nat) : Room := { frames := f, cells := 0, slots := 0, locals := k }
/-- a method that returns the int r and turns the world wc into w1 -/
def CtI (l : Launch) (g : G9) (y : MethodName) (cc : ByteArray) (n : Nat) (ret : FieldType) (f k : Nat) (av : List Value) (wc : va_W) (r : Int32) (w1 : va_W) : Prop :=
  ∀ sz : Nat, Met l y (.code y cc n (some ret) :: U0) (rm9 f k) (Pre9 g av wc sz) (Qi9 g wc w1 sz r) 0 0 (va_A wc sz)
def CtV (l : Launch) (g : G9) (y : MethodName) (cc : ByteArray) (n : Nat) (f k : Nat) (av : List Value) (wc w1 : va_W) : Prop :=
  ∀ sz : Nat, Met l y (.code y cc n none :: U0) (rm9 f k) (Pre9 g av wc sz) (Qv9 g wc w1 sz) 0 0 (va_A wc sz)
/-- what holds all through a method's body -/
def MC (p : Program) (s : State) (m : MethodId) (args : Array Value) (meth : Method) (c : Code) (cc : ByteArray) (n : Nat) (own : String) (g : G9) (A : Nat → Prop) : Prop :=
  p.tables.exec = Jvm.exec ∧ c.code = cc ∧ c.maxLocals = n ∧ s.vm.findClass own = some m.cls ∧ (∀ w ∈ U0, w.before args s = true) ∧ (∀ q : Nat, s.heap.size ≤ q → A q) ∧ KX g A s s.heap
/-- the world now -/
def WD (g : G9) (s : State) (A : Nat → Prop) (ws : va_W) (H : Heap) (locs : List Loc) : Prop := va_P (gD g) vwCl ws H ∧ va_D A ws ∧ va_S A s.heap H locs
theorem WD.perm {g : G9} {s : State} {A : Nat → Prop} {ws ws' : va_W} {H : Heap} {locs : List Loc} (h : WD g s A ws H locs) (is : List Nat) (hn : va_nd is = true) (hs : is.map (fun i => ws[i]?) = ws'.map some) : WD g s A ws' H locs := by
  refine ⟨?_, h.2.1.sub is hn hs, h.2.2⟩
  intro k q hk
  have h1 : (ws'.map some)[k]? = some (some q) := by rw [List.getElem?_map, hk]; rfl
  rw [← hs, List.getElem?_map] at h1
  cases hi : is[k]? with
  | none => rw [hi] at h1; cases h1
  | some i => rw [hi] at h1; exact h.1 i q (Option.some.inj h1)
section BASE
variable {p : Program} {l : Launch} {e : Env} {R : Room} {s : State} {m : MethodId} {args : Array Value} {below : List Frame} {meth : Method} {c : Code} {H : Heap} {locs : List Loc} {cells slots : Nat} {Q : State → Prop}
variable {g : G9} {A : Nat → Prop} {cc : ByteArray} {n : Nat} {own : String} {ws : va_W} {pc : Nat} {ls : Array Slot} {rest : List Value}
theorem pre9_blind {av : List Value} {wc : va_W} {sz : Nat} : FrameBlind (Pre9 g av wc sz) := by
  intro a U gf mk q
  obtain ⟨q0, q1, qP, qK, qD⟩ := q
  exact ⟨q0, q1, qP, KX.same (u := U) (U := U.calling gf mk a) rfl qK, qD⟩
theorem pre9_of {av : List Value} {wc : va_W} (M : MC p s m args meth c cc n own g A) (hW : WD g s A ws H locs) (isC : List Nat) (hC : isC.map (fun i => ws[i]?) = wc.map some) (hn : va_nd isC = true) :
    ∀ U : State, U.heap = H → s.WarmedH U.vm → Pre9 g av wc H.size av.toArray U := by
  intro U hU hWm
  obtain ⟨hP, hD, hS⟩ := hW
  obtain ⟨-, -, -, -, -, hA, kx⟩ := M
  have hF := va_free (wc := wc) hD hS hA isC hC
  have hP2 : WD g s A wc H locs := WD.perm ⟨hP, hD, hS⟩ isC hn hC
  refine ⟨rfl, by rw [hU], by rw [hU]; exact hP2.1, ?_, hP2.2.1.weaken (fun _ _ _ _ => trivial)⟩
  rw [hU]
  exact ((kx.kept hS.2.1).narrow hF).warm hWm
/-- the words of a call -/
theorem u0_good {y : MethodName} {cy : ByteArray} {ny : Nat} {ry : Option FieldType} (h : Cond.code y cy ny ry ∈ U0) : GoodIn U0 (.code y cy ny ry :: U0) := fun w hw => (List.mem_cons.mp hw).elim (fun e => by rw [e]; exact U0_good _ h) (fun h2 => U0_good _ h2)
theorem u0_B {y : MethodName} {cy : ByteArray} {ny idx k0 f0 na : Nat} {ry : Option FieldType} (M : MC p s m args meth c cc n own g A) (hcode : Cond.code y cy ny ry ∈ U0) (hini : Cond.initialized y.cls ∈ U0) (hl : Cond.methodLink own idx y ∈ U0)
    (hd : y.cls ≠ "java/lang/invoke/MethodHandle" ∧ y.cls ≠ "java/lang/invoke/VarHandle" ∧ (parseMethodDescriptor y.desc).map (fun d => d.parameters.length) = some na) (hR : f0 + 1 ≤ R.frames ∧ 8 + (ny + 11) + k0 ≤ R.locals) :
    CallB R s args own idx y cy ny ry (.code y cy ny ry :: U0) (rm9 f0 k0) 0 0 na :=
  callB_of na M.2.2.2.2.1 (u0_good hcode) rfl rfl rfl (M.2.2.2.2.1 _ hini) (M.2.2.2.2.1 _ hl) hd hR
theorem join9 {wc wr w1 ws2 : va_W} {H1 : Heap} {locs1 : List Loc} (M : MC p s m args meth c cc n own g A) (hW : WD g s A ws H locs) (isC isR pm : List Nat) (hC : isC.map (fun i => ws[i]?) = wc.map some) (hR : isR.map (fun i => ws[i]?) = wr.map some) (hn : va_nd isR = true) (hdis : isR.all (fun i => !isC.contains i) = true)
    (hpn : va_nd pm = true) (hpm : pm.map (fun i => (wr ++ w1)[i]?) = ws2.map some) (hk : ∀ q : Nat, q < H.size → ¬ va_A wc H.size q → H1[q]? = H[q]?) (hP1 : va_P (gD g) vwCl w1 H1) (hD1 : va_D (va_A wc H.size) w1) (hS1 : va_S A s.heap H1 locs1) : WD g s A ws2 H1 locs1 := by
  obtain ⟨hP, hD, hS⟩ := hW
  have hF := va_free (wc := wc) hD hS M.2.2.2.2.2.1 isC hC
  have hdis' : ∀ i ∈ isR, i ∉ isC := fun i hi => by
    have h1 := List.all_eq_true.mp hdis i hi
    simpa using h1
  obtain ⟨hP2, hD2⟩ := va_join (wr := wr) (w1 := w1) hP hD isC isR hC hR hn hdis' hk hF hP1 hD1
  exact WD.perm ⟨hP2, hD2, hS1⟩ pm hpn hpm
end BASE
