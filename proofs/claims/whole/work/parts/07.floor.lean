/-! Math.floorDiv, walked like a method of ours: its class is one that has natives of its own, but no row of their table names it (plainFor). -/
/-- what it answers -/
def flo (x y : Int32) : Int32 := if x ^^^ y < 0 then if x / y * y = x then x / y else x / y - 1 else x / y
abbrev yF9 : MethodName := yJ9_floorDiv_7cf53
abbrev cF9 : ByteArray := cJ9_floorDiv_7cf53
section FLOOR8
set_option maxHeartbeats 4000000 in
set_option maxRecDepth 100000 in
theorem t_floor (l : Launch) (g : G9) (x y : Int32) (hy : ¬ y = 0) : CtI l g yF9 cF9 3 .int 0 0 [.int x, .int y] [] (flo x y) [] := by
  intro sz
  have hw0 : Cond.code yF9 cF9 3 (some .int) ∈ (Cond.code yF9 cF9 3 (some .int) :: U0 : List Cond) := List.mem_cons_self
  refine MetFree.of_bodySF (code := cF9) (maxLocals := 3) (ret := some .int) (by decide +kernel) (fun args s m hp hn => ?_) (fun p e s m args below meth c s₁ B hml hv _ => ?_)
  · obtain ⟨me, co, q1, q2, q3, q4, q5, q6, -⟩ := Cond.code_spec hn (atoms_spec (ws := .code yF9 cF9 3 (some .int) :: U0) hp _ hw0)
    exact ⟨me, co, q1, q2, q3, q4, q5, q6⟩
  have hlk := B.notSynchronized
  have hx := B.exec
  have hb := B.bytes
  obtain ⟨rfl, rfl, hP, -, hD⟩ := hv
  suffices go : W p l e (rm9 0 0) s m [.int x, .int y].toArray below meth c s.heap [] 0 0 (MQ below (Qi9 g [] [] s.heap.size (flo x y)) [.int x, .int y].toArray s 0 0 (va_A [] s.heap.size)) (entryFrame m [.int x, .int y].toArray 3) by
    obtain ⟨t, steps, o, running, ended, good⟩ := go s₁ (by rw [B.state]; rfl) (Stand.of_body B)
    exact ⟨t, o, steps, running, ended, good⟩
  have fin : ∀ (r : Int32) (pc : Nat) (ls : Array Slot), r = flo x y → decode cF9 pc = .ok (.ireturn, 1) →
      W p l e (rm9 0 0) s m [.int x, .int y].toArray below meth c s.heap [] 0 0 (MQ below (Qi9 g [] [] s.heap.size (flo x y)) [.int x, .int y].toArray s 0 0 (va_A [] s.heap.size)) (F0 m pc ls [.int r]) := by
    intro r pc ls hr hd
    exact W.iret hx hb B.returns (fun t ht _ => ⟨⟨r, (), rfl, hr, by rw [ht]; exact hP, hD.self⟩, (va_S.rf (A := va_A [] s.heap.size)).F ht⟩) (fun q hq => nomatch hq) hd hlk
  have hl := lv_entry [.int x, .int y] (n := 3) (Nat.le_of_ble_eq_true rfl)
  rw [lg_entry_eq]
  generalize (lg_sl [.int x, .int y] ++ List.replicate (3 - (lg_sl [.int x, .int y]).length) Slot.unset).toArray = ls at hl ⊢
  have hl : lv_has ls 3 [(0, .int x), (1, .int y)] := hl
  refine lv_iload_n (pc := 0) hx hb (dd dJ9_floorDiv_7cf53 0 rfl) rfl (lv_at hl 0 rfl) ?_
  refine lv_iload_n (pc := 1) hx hb (dd dJ9_floorDiv_7cf53 1 rfl) rfl (lv_at hl 1 rfl) ?_
  refine lv_idiv (pc := 2) hx hb (dd dJ9_floorDiv_7cf53 2 rfl) hy ?_
  refine lv_istore_n (pc := 3) (lv' := [(2, .int (x / y)), (0, .int x), (1, .int y)]) hx hb (dd dJ9_floorDiv_7cf53 3 rfl) rfl hl (by decide) rfl (fun ls hl => ?_)
  refine lv_iload_n (pc := 4) hx hb (dd dJ9_floorDiv_7cf53 4 rfl) rfl (lv_at hl 1 rfl) ?_
  refine lv_iload_n (pc := 5) hx hb (dd dJ9_floorDiv_7cf53 5 rfl) rfl (lv_at hl 2 rfl) ?_
  refine lv_ixor (pc := 6) hx hb (dd dJ9_floorDiv_7cf53 6 rfl) ?_
  refine lv_if_ge (pc := 7) (tgt := 21) hx hb (dd dJ9_floorDiv_7cf53 7 rfl) (by decide) (fun hc => ?_) (fun hc => ?_)
  · refine lv_iload_n (pc := 21) hx hb (dd dJ9_floorDiv_7cf53 17 rfl) rfl (lv_at hl 0 rfl) ?_
    refine fin _ 22 ls ?_ (dd dJ9_floorDiv_7cf53 18 rfl)
    unfold flo
    rw [if_neg (Int32.not_lt.mpr hc)]
  · have hn : x ^^^ y < 0 := Int32.not_le.mp hc
    refine lv_iload_n (pc := 10) hx hb (dd dJ9_floorDiv_7cf53 8 rfl) rfl (lv_at hl 0 rfl) ?_
    refine lv_iload_n (pc := 11) hx hb (dd dJ9_floorDiv_7cf53 9 rfl) rfl (lv_at hl 2 rfl) ?_
    refine lv_imul (pc := 12) hx hb (dd dJ9_floorDiv_7cf53 10 rfl) ?_
    refine lv_iload_n (pc := 13) hx hb (dd dJ9_floorDiv_7cf53 11 rfl) rfl (lv_at hl 1 rfl) ?_
    refine lv_icmp_eq (pc := 14) (tgt := 21) hx hb (dd dJ9_floorDiv_7cf53 12 rfl) (by decide) (fun he => ?_) (fun he => ?_)
    · refine lv_iload_n (pc := 21) hx hb (dd dJ9_floorDiv_7cf53 17 rfl) rfl (lv_at hl 0 rfl) ?_
      refine fin _ 22 ls ?_ (dd dJ9_floorDiv_7cf53 18 rfl)
      unfold flo
      rw [if_pos hn, if_pos he]
    · refine lv_iload_n (pc := 17) hx hb (dd dJ9_floorDiv_7cf53 13 rfl) rfl (lv_at hl 0 rfl) ?_
      refine lv_iconst (pc := 18) (v := 1) hx hb (dd dJ9_floorDiv_7cf53 14 rfl) (by decide) ?_
      refine lv_isub (pc := 19) hx hb (dd dJ9_floorDiv_7cf53 15 rfl) ?_
      refine fin _ 20 ls ?_ (dd dJ9_floorDiv_7cf53 16 rfl)
      unfold flo
      rw [if_pos hn, if_neg he]
end FLOOR8
section FLOOR9
variable {p : Program} {l : Launch} {e : Env} {R : Room} {s : State} {m : MethodId} {args : Array Value} {below : List Frame} {meth : Method} {c : Code} {H : Heap} {locs : List Loc} {cells slots : Nat} {Q : State → Prop}
variable {g : G9} {A : Nat → Prop} {cc : ByteArray} {n : Nat} {own : String} {ws : va_W} {pc : Nat} {ls : Array Slot} {rest : List Value} {idx : Nat}
/-- floorDiv is called: nothing of the world changes -/
theorem rFloor {x y : Int32} (M : MC p s m args meth c cc n own g A) (hls : ls.size = n) (hW : WD g s A ws H locs) (hl : Cond.methodLink own idx yF9 ∈ U0) (h2 : Cond.static yF9 ∈ U0) (h3 : Cond.initialized "java/lang/Math" ∈ U0) (h4 : Cond.code yF9 cF9 3 (some .int) ∈ U0)
    (hRm : 1 ≤ R.frames ∧ 22 ≤ R.locals) (hrest : (rest.map fun v => v.category).sum ≤ 8) (hcs : cells ≤ R.cells ∧ slots ≤ R.slots) (hy : ¬ y = 0) (hdg : decode cc pc = .ok (.invokestatic idx, 3))
    (kk : ∀ (H1 : Heap) (locs1 : List Loc), WD g s A ws H1 locs1 → W p l e R s m args below meth c H1 locs1 cells slots Q (F0 m (pc + 3) ls (.int (flo x y) :: rest))) : W p l e R s m args below meth c H locs cells slots Q (F0 m pc ls (.int y :: .int x :: rest)) := by
  have hF := va_free (wc := []) hW.2.1 hW.2.2 M.2.2.2.2.2.1 [] rfl
  have hB : CallB R s args own idx yF9 cF9 3 (some .int) (.code yF9 cF9 3 (some .int) :: U0) (rm9 0 0) 0 0 2 := u0_B M h4 h3 hl ⟨by decide, by decide, by decide +kernel⟩ ⟨by omega, by omega⟩
  refine va_calli (A1 := va_A [] H.size) (va_runS (As := [.int x, .int y]) (rest := rest) ⟨M.1, M.2.1, M.2.2.1, M.2.2.2.1, M.2.2.2.2.1⟩ (t_floor l g x y hy H.size) (cw := ⟨hB, M.2.2.2.2.1 _ h2⟩) ⟨pre9_blind, pre9_of M hW [] rfl rfl⟩ rfl rfl hls rfl (lv_room hrest) hdg hcs) hW.2.2 (fun q _ h => hF q h) hF (fun r u t H1 locs1 _ _ hr _ _ hk1 hS1 => ?_)
  subst hr
  refine kk H1 locs1 ⟨fun k q hk => ?_, hW.2.1, hS1⟩
  have old := hW.1 k q hk
  refine old.kept (hk1 q.1 old.lt (fun hin => ?_))
  rcases hin with ⟨k2, e2, hz⟩ | hz
  · simp at hz
  · exact absurd old.lt (Nat.not_lt.mpr hz)
end FLOOR9
