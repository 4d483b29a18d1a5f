section FLOOR9
variable {p : Program} {l : Launch} {e : Env} {R : Room} {s : State} {m : MethodId} {args : Array Value} {below : List Frame} {meth : Method} {c : Code} {H : Heap} {locs : List Loc} {cells slots : Nat} {Q : State → Prop}
variable {g : G9} {A : Nat → Prop} {cc : ByteArray} {n : Nat} {own : String} {ws : va_W} {pc : Nat} {ls : Array Slot} {rest : List Value} {a idx : Nat}
abbrev flo (x y : Int32) : Int32 := Jvm.Free.JP.Math_floorDiv_II.val x y
theorem rFloor (M : MC p s m args meth c cc n own g A) (hls : ls.size = n) (hl : Cond.methodLink own idx Jvm.Free.JP.Math_floorDiv_II.yN ∈ U0) (h2 : Cond.static Jvm.Free.JP.Math_floorDiv_II.yN ∈ U0) (h3 : Cond.initialized "java/lang/Math" ∈ U0) (h4 : Cond.code Jvm.Free.JP.Math_floorDiv_II.yN Jvm.Free.JP.Math_floorDiv_II.yB 3 (some .int) ∈ U0) (hRm : 1 ≤ R.frames ∧ 22 ≤ R.locals) (hrest : (rest.map fun v => v.category).sum ≤ 8) (hcs : cells ≤ R.cells ∧ slots ≤ R.slots) {x y : Int32} (hy : ¬ y = 0) (hdg : decode cc pc = .ok (.invokestatic idx, 3))
    (kk : W p l e R s m args below meth c H locs cells slots Q (F0 m (pc + 3) ls (.int (flo x y) :: rest))) : W p l e R s m args below meth c H locs cells slots Q (F0 m pc ls (.int y :: .int x :: rest)) := by
  intro T hT X
  have hu := M.2.2.2.2.1
  have htab : (Jvm.Free.JP.Math_floorDiv_II.tab).before args s = true := by
    have e1 := hu _ h4
    have e2 := hu _ h3
    show (Cond.and (Cond.code Jvm.Free.JP.Math_floorDiv_II.yN Jvm.Free.JP.Math_floorDiv_II.yB 3 (some .int)) (Cond.initialized "java/lang/Math")).before args s = true
    rw [Cond.before_and, e1, e2]
    rfl
  have hK := Jvm.Free.JP.Math_floorDiv_II.pays (l := l) (R := R) (p := p) (e := e) (below := below) (s := s) (sargs := args) (len := 3) (W := 8) x y htab hRm.1 hRm.2
  obtain ⟨v, vm₁, ⟨U', l2, c2, s2⟩, hW₁, X', ⟨⟨hv, hheap⟩, h1, h2', h3'⟩, st⟩ := callS X M.1 M.2.2.2.1 (hu _ hl) (hu _ h2) (hu _ h3) (hu _ h4) (by decide) hK (g := F0 m pc ls (.int y :: .int x :: rest)) rfl (hls.trans M.2.2.1.symm) (argsL := [.int x, .int y]) (rest := rest) (fun sig hs => by
      have h : parseMethodDescriptor "(II)I" = some { parameters := [.int, .int], returnType := some .int } := by decide +kernel
      rw [show Jvm.Free.JP.Math_floorDiv_II.yN.desc = "(II)I" from rfl, h] at hs
      rw [← Option.some.inj hs]; rfl) rfl (lv_room hrest) (by rw [M.2.1]; exact hdg) (fun vm₁ hW₁ => ⟨hcs.1, hcs.2, rfl, hy⟩)
  dsimp only [Pt.U, Pt.locs, Pt.cells, Pt.slots] at X' hheap h1 h2' h3' st
  subst h2'; subst h3'; subst hv
  rw [List.append_nil] at h1
  subst h1
  obtain ⟨t, a1, b1⟩ := kk U' (hheap.trans hT) X'
  exact ⟨t, st t a1, b1⟩
end FLOOR9
