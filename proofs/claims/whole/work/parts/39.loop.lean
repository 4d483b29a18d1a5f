def R_law : String := "FieldRowsLaw"
def lw_P (b : Addr) (xs : List Int32) (args : Array Value) (s : State) : Prop := args = #[.ref b] ∧ s.IntsAt b xs ∧ xs.length ≤ 2560 ∧ (Jvm.Cond.and given_1 narrow_1).before args s = true
def lw_Q (_ : Array Value) (s : State) (o : Outcome) (t : State) : Prop := o = .returned (some (.int 1)) ∧ Framed s o t [] 601024 7293034
def lw_Z (below : List Frame) (a : Array Value) (s : State) : State → Prop := fun t => ∃ o, t.status = .running ∧ Ended t below o ∧ lw_Q a s o t
/-- the law's own end, with 1 on the stack, nothing written that was there before, its room as the claim has it -/
theorem lw_ret {p : Program} {l : Launch} {e : Env} {s : State} {m : MethodId} {below : List Frame} {meth : Method} {c : Code} {b : Nat} (hx : p.tables.exec = Jvm.exec) (hb : c.code = code) (hr : meth.sig.returnType = ret) (hlocks : meth.locks = false) {pc : Nat} {H : Heap} {ls : Array Slot} (hdg : decode code pc = .ok (.ireturn, 1)) : W p l e room_1 s m #[Value.ref b] below meth c H [] 601024 7293034 (lw_Z below #[Value.ref b] s) (F0 m pc ls [.int 1]) := by
  intro T hT X
  obtain ⟨fs, hret, hrun, hended, hW, hframe⟩ := X.leave (v := some (.int 1)) (hlocks := hlocks) (fun h => by rw [hr] at h; cases h)
  have hmeth' : T.vm.method? m = some meth := X.method'
  refine ⟨T.setFrames fs, ?_, .returned (some (.int 1)), hrun, hended, rfl, ⟨_, rfl⟩, hW, hframe⟩
  jvm_step X.here [X.here.top, hx, hb, hdg, hmeth', hr, ret, narrow_b1]
  (try refine ⟨rfl, ?_⟩); (try refine ⟨rfl, ?_⟩)
  first | (intro acts; rw [hret _ acts rfl rfl rfl]) | rw [hret _ _ rfl rfl rfl]
  exact Steps.refl _
/-- what holds at the law's entry: the machine, the code, the tables' words (any of lw_tbl by 'hts w (by decide +kernel)'), the script of L ints xs at the cell b, what the Statement gives of the start (any of its parts by flat_of_before) -/
def lw_At (p : Program) (s : State) (m : MethodId) (meth : Method) (c : Code) (b L : Nat) (xs : Nat → Int32) : Prop :=
  p.tables.exec = Jvm.exec ∧ c.code = code ∧ meth.sig.returnType = ret ∧ c.maxLocals = 7 ∧ s.vm.findClass R_law = some m.cls ∧ (∀ w ∈ lw_tbl, w.before #[Value.ref b] s = true) ∧ va_X b L xs s s.heap ∧ b < s.heap.size ∧ meth.locks = false ∧ (Jvm.Cond.and given_1 narrow_1).before #[Value.ref b] s = true
def AllSteps (Inv : (Nat → Ar) → (Nat → Int32) → (Nat → Ar) → (Nat → Int32) → Prop) : Prop := ∀ (fa : Nat → Ar) (fi : Nat → Int32) (ga : Nat → Ar) (gi : Nat → Int32), Inv fa fi ga gi →
  (∀ (x1 x2 x3 : Int32), St_corner Inv fa fi ga gi x1 x2 x3) ∧
  (∀ (x1 : Int32), St_clear Inv fa fi ga gi x1) ∧
  (∀ (x1 : Int32), St_area Inv fa fi ga gi x1) ∧
  (∀ (x1 : Int32), St_lay Inv fa fi ga gi x1) ∧
  (∀ (x1 x2 : Int32), St_square Inv fa fi ga gi x1 x2) ∧
  (∀ (x1 x2 x3 : Int32), St_rows Inv fa fi ga gi x1 x2 x3) ∧
  (∀ (x1 x2 : Int32), St_row Inv fa fi ga gi x1 x2) ∧
  (∀ (x1 x2 : Int32), St_rowOf Inv fa fi ga gi x1 x2) ∧
  (∀ (x1 x2 x3 x4 : Int32), St_way Inv fa fi ga gi x1 x2 x3 x4) ∧
  (∀ (x1 x2 : Int32), St_turn Inv fa fi ga gi x1 x2) ∧
  (St_best Inv fa fi ga gi ) ∧
  (St_bound Inv fa fi ga gi ) ∧
  (∀ (x1 : Int32), St_plan Inv fa fi ga gi x1) ∧
  (∀ (x1 x2 : Int32), St_swing Inv fa fi ga gi x1 x2) ∧
  (∀ (x1 x2 : Int32), St_slant Inv fa fi ga gi x1 x2) ∧
  (St_unslant Inv fa fi ga gi ) ∧
  (∀ (x1 : Int32), St_choose Inv fa fi ga gi x1) ∧
  (∀ (x1 x2 x3 : Int32), St_yields Inv fa fi ga gi x1 x2 x3) ∧
  (∀ (x1 x2 x3 : Int32), St_bears Inv fa fi ga gi x1 x2 x3) ∧
  (∀ (x1 x2 x3 : Int32), St_reaper Inv fa fi ga gi x1 x2 x3) ∧
  (St_run Inv fa fi ga gi ) ∧
  (∀ (x1 : Int32), St_look Inv fa fi ga gi x1) ∧
  (∀ (x1 : Int32), St_wagon Inv fa fi ga gi x1) ∧
  (∀ (x1 : Int32), St_count Inv fa fi ga gi x1)
theorem lt5 {i L : Nat} (hi : i ≤ 2600) (hL : L ≤ 2560) (h : ¬ nI L - 5 < nI i) : i + 5 ≤ L := by
  have e1 : (nI L - nI 5).toInt = (L : Int) - 5 := pk_sub_toInt (by omega) (by omega)
  have e2 : (nI i).toInt = (i : Int) := nI_toInt (by omega)
  have e3 : (5 : Int32) = nI 5 := by decide
  rw [Int32.lt_iff_toInt_lt, e3, e1, e2] at h
  omega
theorem nlt5 {i L : Nat} (hi : i ≤ 2600) (hL : L ≤ 2560) (h : i + 5 ≤ L) : ¬ nI L - 5 < nI i := by
  have e1 : (nI L - nI 5).toInt = (L : Int) - 5 := pk_sub_toInt (by omega) (by omega)
  have e2 : (nI i).toInt = (i : Int) := nI_toInt (by omega)
  have e3 : (5 : Int32) = nI 5 := by decide
  rw [Int32.lt_iff_toInt_lt, e3, e1, e2]
  omega
set_option maxHeartbeats 8000000 in
set_option maxRecDepth 100000 in
/-- the law's end -/
theorem fin9 {p : Program} {l : Launch} {e : Env} {s : State} {m : MethodId} {below : List Frame} {meth : Method} {c : Code} {g : G9} {A : Nat → Prop} {b L : Nat} {xs : Nat → Int32} {ws : va_W} {x1 x2 x3 : Nat} {i cells slots : Nat} {H : Heap} {locs : List Loc} {ls : Array Slot}
    (hl9 : l.stackTraces = false) (hAe : A = fun q : Nat => s.heap.size ≤ q) (M : MC p s m #[Value.ref b] meth c cL_law 7 RL g A) (hr : meth.sig.returnType = ret) (hlocks : meth.locks = false) (hX : va_X b L xs s s.heap) (hbl : b < s.heap.size) (hbA : ¬ A b) (hL : L ≤ 2560)
    (hi : i ≤ 2600) (hend : L < i + 5) (hc1 : cells ≤ 100 + i) (hc2 : slots ≤ 100000 + 6 * i) (hW : WD g s A ws H locs) (hl : lv_has ls 7 [(0, .ref b), (1, .ref x1), (2, .ref x2), (3, .ref x3), (4, .int (nI i))]) :
    W p l e room_1 s m #[Value.ref b] below meth c H locs cells slots (lw_Z below #[Value.ref b] s) (F0 m 23 ls []) := by
  have hx := M.1
  have hb := M.2.1
  refine lv_iload (pc := 23) hx hb (dd dL_law_p0 13 rfl) (lv_at hl 4 rfl) ?_
  refine lv_aload_n (pc := 25) hx hb (dd dL_law_p0 14 rfl) rfl (lv_at hl 0 rfl) ?_
  refine va_slen (pc := 26) hx hb hX hbl hbA hW.2.2 (dd dL_law_p0 15 rfl) ?_
  refine lv_iconst (pc := 27) (v := 5) hx hb (dd dL_law_p0 16 rfl) (by decide) ?_
  refine lv_isub (pc := 28) hx hb (dd dL_law_p0 17 rfl) ?_
  refine lv_icmp_gt (pc := 29) (tgt := 1463) hx hb (dd dL_law_p0 18 rfl) (by decide) (fun hc => ?_) (fun hc => absurd (lt5 hi hL hc) (by omega))
  refine lv_iconst (pc := 1463) (v := 1) hx hb (dd dL_law_p14 48 rfl) (by decide) ?_
  refine va_forget (fun q hq => by have := hW.2.2.2.2 q hq; rw [hAe] at this; exact this) ?_
  refine W.widen (k := 601024) (n := 7293034) (by omega) (by omega) ?_
  exact lw_ret hx hb hr hlocks (dd dL_law_p14 49 rfl)
set_option maxHeartbeats 8000000 in
set_option maxRecDepth 100000 in
theorem law_loop {p : Program} {l : Launch} {e : Env} {s : State} {m : MethodId} {below : List Frame} {meth : Method} {c : Code} {g : G9} {A : Nat → Prop} {b L : Nat} {xs : Nat → Int32} {ad : Nat → Nat} {Inv : (Nat → Ar) → (Nat → Int32) → (Nat → Ar) → (Nat → Int32) → Prop}
    (hl9 : l.stackTraces = false) (hAe : A = fun q : Nat => s.heap.size ≤ q) (M : MC p s m #[Value.ref b] meth c cL_law 7 RL g A) (hr : meth.sig.returnType = ret) (hlocks : meth.locks = false) (hX : va_X b L xs s s.heap) (hbl : b < s.heap.size) (hbA : ¬ A b) (hL : L ≤ 2560) (hall : AllSteps Inv) :
    ∀ (n i cells slots : Nat) (fa : Nat → Ar) (fi : Nat → Int32) (ga : Nat → Ar) (gi : Nat → Int32) (ot : Nat → Int64) (H : Heap) (locs : List Loc) (ls : Array Slot), i ≤ 2600 → L + 1 ≤ i + n → cells ≤ 100 + i → slots ≤ 100000 + 6 * i → Inv fa fi ga gi → WD g s A (w_law g ad fa fi ga gi ot) H locs → lv_has ls 7 [(0, .ref b), (1, .ref (ad 0)), (2, .ref (ad 51)), (3, .ref (ad 75)), (4, .int (nI i))] →
      W p l e room_1 s m #[Value.ref b] below meth c H locs cells slots (lw_Z below #[Value.ref b] s) (F0 m 23 ls []) := by
  have hx := M.1
  have hb := M.2.1
  have hown := M.2.2.2.1
  have hu := M.2.2.2.2.1
  intro n
  induction n with
  | zero =>
    intro i cells slots fa fi ga gi ot H locs ls hi hn hc1 hc2 hI hW hl
    exact (fin9 hl9 hAe M hr hlocks hX hbl hbA hL hi (by omega) hc1 hc2 hW hl)
  | succ n ih =>
    intro i cells slots fa fi ga gi ot H locs ls hi hn hc1 hc2 hI hW hl
    by_cases hend : L < i + 5
    · exact (fin9 hl9 hAe M hr hlocks hX hbl hbA hL hi hend hc1 hc2 hW hl)
    have hi5 : i + 5 ≤ L := by omega
    have back : ∀ (fa : Nat → Ar) (fi : Nat → Int32) (ga : Nat → Ar) (gi : Nat → Int32) (ot : Nat → Int64) (H : Heap) (locs : List Loc) (ls : Array Slot), Inv fa fi ga gi → WD g s A (w_law g ad fa fi ga gi ot) H locs → lv_has ls 7 [(0, .ref b), (1, .ref (ad 0)), (2, .ref (ad 51)), (3, .ref (ad 75)), (4, .int (nI i))] → W p l e room_1 s m #[Value.ref b] below meth c H locs (cells + 1) (slots + 6) (lw_Z below #[Value.ref b] s) (F0 m 1457 ls []) := by
      intro fa fi ga gi ot H locs ls hI hW hl
      refine lv_iinc (pc := 1457) (v := nI (i + 5)) (lv' := [(4, .int (nI (i + 5))), (0, .ref b), (1, .ref (ad 0)), (2, .ref (ad 51)), (3, .ref (ad 75))]) hx hb (dd dL_law_p14 46 rfl) hl (k := 4) rfl (nI_add i 5) (by decide) rfl (fun ls hl => ?_)
      refine lv_goto (pc := 1460) (tgt := 23) hx hb (dd dL_law_p14 47 rfl) (by decide) ?_
      exact ih (i + 5) (cells + 1) (slots + 6) fa fi ga gi ot H locs ls (by omega) (by omega) (by omega) (by omega) hI hW (lv_sub hl [1, 2, 3, 4, 0] rfl)
    have hcs : cells + 1 ≤ room_1.cells ∧ slots + 6 ≤ room_1.slots := ⟨by show cells + 1 ≤ 601024; omega, by show slots + 6 ≤ 7293034; omega⟩
    have hS := hall fa fi ga gi hI
    refine lv_iload (pc := 23) hx hb (dd dL_law_p0 13 rfl) (lv_at hl 4 rfl) ?_
    refine lv_aload_n (pc := 25) hx hb (dd dL_law_p0 14 rfl) rfl (lv_at hl 0 rfl) ?_
    refine va_slen (pc := 26) hx hb hX hbl hbA hW.2.2 (dd dL_law_p0 15 rfl) ?_
    refine lv_iconst (pc := 27) (v := 5) hx hb (dd dL_law_p0 16 rfl) (by decide) ?_
    refine lv_isub (pc := 28) hx hb (dd dL_law_p0 17 rfl) ?_
    refine lv_icmp_gt (pc := 29) (tgt := 1463) hx hb (dd dL_law_p0 18 rfl) (by decide) (fun hc => absurd hc (nlt5 hi hL hi5)) (fun hc => ?_)
    refine lv_aload_n (pc := 32) hx hb (dd dL_law_p0 19 rfl) rfl (lv_at hl 0 rfl) ?_
    refine lv_iload (pc := 33) hx hb (dd dL_law_p0 20 rfl) (lv_at hl 4 rfl) ?_
    refine rScr0 (pc := 35) M hW hX hbl hbA (by omega) hL (dd dL_law_p0 21 rfl) ?_
    refine lv_bipush (pc := 36) (v := 31) hx hb (dd dL_law_p0 22 rfl) (by decide) ?_
    refine lv_iand (pc := 38) hx hb (dd dL_law_p0 23 rfl) ?_
    obtain ⟨j, hj, hxj⟩ := pk_andE (xs i) (m := 31) 5 (by decide)
    rw [hxj]
    have hj : j < 32 := hj
    by_cases h0 : j = 0
    · subst h0
      refine lv_tableIn (pc := 39) (tgt := 148) hx hb (dd dL_law_p0 24 rfl) (by decide) (by decide) rfl (by decide) ?_
      exact lc_corner hl9 M hX hbl hbA hL hi5 hW hl hcs (hS.1 _ _ _) back
    by_cases h1 : j = 1
    · subst h1
      refine lv_tableIn (pc := 39) (tgt := 228) hx hb (dd dL_law_p0 24 rfl) (by decide) (by decide) rfl (by decide) ?_
      exact lc_clear hl9 M hX hbl hbA hL hi5 hW hl hcs (hS.2.1 _) back
    by_cases h2 : j = 2
    · subst h2
      refine lv_tableIn (pc := 39) (tgt := 284) hx hb (dd dL_law_p0 24 rfl) (by decide) (by decide) rfl (by decide) ?_
      exact lc_area hl9 M hX hbl hbA hL hi5 hW hl hcs (hS.2.2.1 _) back
    by_cases h3 : j = 3
    · subst h3
      refine lv_tableIn (pc := 39) (tgt := 340) hx hb (dd dL_law_p0 24 rfl) (by decide) (by decide) rfl (by decide) ?_
      exact lc_lay hl9 M hX hbl hbA hL hi5 hW hl hcs (hS.2.2.2.1 _) back
    by_cases h4 : j = 4
    · subst h4
      refine lv_tableIn (pc := 39) (tgt := 396) hx hb (dd dL_law_p0 24 rfl) (by decide) (by decide) rfl (by decide) ?_
      exact lc_square hl9 M hX hbl hbA hL hi5 hW hl hcs (hS.2.2.2.2.1 _ _) back
    by_cases h5 : j = 5
    · subst h5
      refine lv_tableIn (pc := 39) (tgt := 464) hx hb (dd dL_law_p0 24 rfl) (by decide) (by decide) rfl (by decide) ?_
      exact lc_rows hl9 M hX hbl hbA hL hi5 hW hl hcs (hS.2.2.2.2.2.1 _ _ _) back
    by_cases h6 : j = 6
    · subst h6
      refine lv_tableIn (pc := 39) (tgt := 544) hx hb (dd dL_law_p0 24 rfl) (by decide) (by decide) rfl (by decide) ?_
      exact lc_row hl9 M hX hbl hbA hL hi5 hW hl hcs (hS.2.2.2.2.2.2.1 _ _) back
    by_cases h7 : j = 7
    · subst h7
      refine lv_tableIn (pc := 39) (tgt := 612) hx hb (dd dL_law_p0 24 rfl) (by decide) (by decide) rfl (by decide) ?_
      exact lc_rowOf hl9 M hX hbl hbA hL hi5 hW hl hcs (hS.2.2.2.2.2.2.2.1 _ _) back
    by_cases h8 : j = 8
    · subst h8
      refine lv_tableIn (pc := 39) (tgt := 680) hx hb (dd dL_law_p0 24 rfl) (by decide) (by decide) rfl (by decide) ?_
      exact lc_way hl9 M hX hbl hbA hL hi5 hW hl hcs (hS.2.2.2.2.2.2.2.2.1 _ _ _ _) back
    by_cases h9 : j = 9
    · subst h9
      refine lv_tableIn (pc := 39) (tgt := 772) hx hb (dd dL_law_p0 24 rfl) (by decide) (by decide) rfl (by decide) ?_
      exact lc_turn hl9 M hX hbl hbA hL hi5 hW hl hcs (hS.2.2.2.2.2.2.2.2.2.1 _ _) back
    by_cases h10 : j = 10
    · subst h10
      refine lv_tableIn (pc := 39) (tgt := 840) hx hb (dd dL_law_p0 24 rfl) (by decide) (by decide) rfl (by decide) ?_
      exact lc_best hl9 M hX hbl hbA hL hi5 hW hl hcs (hS.2.2.2.2.2.2.2.2.2.2.1) back
    by_cases h11 : j = 11
    · subst h11
      refine lv_tableIn (pc := 39) (tgt := 884) hx hb (dd dL_law_p0 24 rfl) (by decide) (by decide) rfl (by decide) ?_
      exact lc_bound hl9 M hX hbl hbA hL hi5 hW hl hcs (hS.2.2.2.2.2.2.2.2.2.2.2.1) back
    by_cases h12 : j = 12
    · subst h12
      refine lv_tableIn (pc := 39) (tgt := 928) hx hb (dd dL_law_p0 24 rfl) (by decide) (by decide) rfl (by decide) ?_
      exact lc_plan hl9 M hX hbl hbA hL hi5 hW hl hcs (hS.2.2.2.2.2.2.2.2.2.2.2.2.1 _) back
    by_cases h13 : j = 13
    · subst h13
      refine lv_tableIn (pc := 39) (tgt := 953) hx hb (dd dL_law_p0 24 rfl) (by decide) (by decide) rfl (by decide) ?_
      exact lc_swing hl9 M hX hbl hbA hL hi5 hW hl hcs (hS.2.2.2.2.2.2.2.2.2.2.2.2.2.1 _ _) back
    by_cases h14 : j = 14
    · subst h14
      refine lv_tableIn (pc := 39) (tgt := 1021) hx hb (dd dL_law_p0 24 rfl) (by decide) (by decide) rfl (by decide) ?_
      exact lc_slant hl9 M hX hbl hbA hL hi5 hW hl hcs (hS.2.2.2.2.2.2.2.2.2.2.2.2.2.2.1 _ _) back
    by_cases h15 : j = 15
    · subst h15
      refine lv_tableIn (pc := 39) (tgt := 1058) hx hb (dd dL_law_p0 24 rfl) (by decide) (by decide) rfl (by decide) ?_
      exact lc_unslant hl9 M hX hbl hbA hL hi5 hW hl hcs (hS.2.2.2.2.2.2.2.2.2.2.2.2.2.2.2.1) back
    by_cases h16 : j = 16
    · subst h16
      refine lv_tableIn (pc := 39) (tgt := 1071) hx hb (dd dL_law_p0 24 rfl) (by decide) (by decide) rfl (by decide) ?_
      exact lc_choose hl9 M hX hbl hbA hL hi5 hW hl hcs (hS.2.2.2.2.2.2.2.2.2.2.2.2.2.2.2.2.1 _) back
    by_cases h17 : j = 17
    · subst h17
      refine lv_tableIn (pc := 39) (tgt := 1127) hx hb (dd dL_law_p0 24 rfl) (by decide) (by decide) rfl (by decide) ?_
      exact lc_yields hl9 M hX hbl hbA hL hi5 hW hl hcs (hS.2.2.2.2.2.2.2.2.2.2.2.2.2.2.2.2.2.1 _ _ _) back
    by_cases h18 : j = 18
    · subst h18
      refine lv_tableIn (pc := 39) (tgt := 1187) hx hb (dd dL_law_p0 24 rfl) (by decide) (by decide) rfl (by decide) ?_
      exact lc_bears hl9 M hX hbl hbA hL hi5 hW hl hcs (hS.2.2.2.2.2.2.2.2.2.2.2.2.2.2.2.2.2.2.1 _ _ _) back
    by_cases h19 : j = 19
    · subst h19
      refine lv_tableIn (pc := 39) (tgt := 1247) hx hb (dd dL_law_p0 24 rfl) (by decide) (by decide) rfl (by decide) ?_
      exact lc_reaper hl9 M hX hbl hbA hL hi5 hW hl hcs (hS.2.2.2.2.2.2.2.2.2.2.2.2.2.2.2.2.2.2.2.1 _ _ _) back
    by_cases h20 : j = 20
    · subst h20
      refine lv_tableIn (pc := 39) (tgt := 1307) hx hb (dd dL_law_p0 24 rfl) (by decide) (by decide) rfl (by decide) ?_
      exact lc_run hl9 M hX hbl hbA hL hi5 hW hl hcs (hS.2.2.2.2.2.2.2.2.2.2.2.2.2.2.2.2.2.2.2.2.1) back
    by_cases h21 : j = 21
    · subst h21
      refine lv_tableIn (pc := 39) (tgt := 1351) hx hb (dd dL_law_p0 24 rfl) (by decide) (by decide) rfl (by decide) ?_
      exact lc_look hl9 M hX hbl hbA hL hi5 hW hl hcs (hS.2.2.2.2.2.2.2.2.2.2.2.2.2.2.2.2.2.2.2.2.2.1 _) back
    by_cases h22 : j = 22
    · subst h22
      refine lv_tableIn (pc := 39) (tgt := 1407) hx hb (dd dL_law_p0 24 rfl) (by decide) (by decide) rfl (by decide) ?_
      exact lc_wagon hl9 M hX hbl hbA hL hi5 hW hl hcs (hS.2.2.2.2.2.2.2.2.2.2.2.2.2.2.2.2.2.2.2.2.2.2.1 _) back
    by_cases h23 : j = 23
    · subst h23
      refine lv_tableIn (pc := 39) (tgt := 1432) hx hb (dd dL_law_p0 24 rfl) (by decide) (by decide) rfl (by decide) ?_
      exact lc_count hl9 M hX hbl hbA hL hi5 hW hl hcs (hS.2.2.2.2.2.2.2.2.2.2.2.2.2.2.2.2.2.2.2.2.2.2.2 _) back
    have hjt : (nI j).toInt = (j : Int) := nI_toInt (by omega)
    refine lv_tableOut (pc := 39) (tgt := 1457) hx hb (dd dL_law_p0 24 rfl) (by rw [hjt]; omega) (by decide) ?_
    refine W.widen (k := cells + 1) (n := slots + 6) (by omega) (by omega) ?_
    exact back fa fi ga gi ot H locs ls hI hW hl
