/-! more calls -/
section OPS8
variable {fa : Nat → Ar} {fi : Nat → Int32} {ga : Nat → Ar} {gi : Nat → Int32}
theorem o_count (h : Inv9 fa fi ga gi) (x1 : Int32) : St_count Inv9 fa fi ga gi x1 := by
  have h' := h
  obtain ⟨hr, hl, hs, hp, hw⟩ := h
  have val : ∃ r, X9_count (fi 4) (fi 5) (fi 6) (fi 7) (fi 12) (fi 11) (fi 14) x1 = some r ∧ X10_count (gi 0) (gi 1) (gi 2) (gi 3) (gi 4) (gi 5) (gi 6) (ga 3) x1 = some (r, 0) := by
    unfold X9_count X10_count
    by_cases c0 : x1 = 0
    · rw [if_pos c0, if_pos c0]
      rcases hl with ⟨l1, l2, _⟩ | ⟨l1, l2, _⟩
      · rw [l1, l2, if_pos rfl, if_pos rfl]; exact ⟨0, rfl, rfl⟩
      · rw [l1, l2, if_neg n10, if_neg n10]; exact ⟨1, rfl, rfl⟩
    rw [if_neg c0, if_neg c0]
    by_cases c1 : x1 = 1
    · rw [if_pos c1, if_pos c1]
      rcases hl with ⟨_, l2, _, l4, _⟩ | ⟨_, l2, _, k, _, f1, f2⟩
      · rw [l2, l4, if_pos rfl]; exact ⟨0, rfl, rfl⟩
      · rw [l2, if_neg n10, counts_ok, bnd_some, f1]
        refine ⟨_, rfl, ?_⟩
        have a := cnt_not (fun s => decide (ga 3 s = 0)) 1200
        have b : cnt (fun s => !decide (ga 3 s = 0)) 1200 = cnt (fun s => decide (¬ fa 8 s = 0)) 1200 := cnt_congr (fun s hs => by rw [(k s hs).1, decide_not])
        have e : (1200 : Int32) - nI (cnt (fun s => decide (ga 3 s = 0)) 1200) = nI (cnt (fun s => decide (¬ fa 8 s = 0)) 1200) := by
          rw [show (1200 : Int32) = nI 1200 from rfl, pk_sub (by omega)]
          exact congrArg nI (by omega)
        rw [e]
    rw [if_neg c1, if_neg c1]
    by_cases c2 : x1 = 2
    · rw [if_pos c2, if_pos c2]
      rcases hl with ⟨_, l2, _, l4, l5⟩ | ⟨_, l2, _, k, _, f1, f2⟩
      · rw [l2, l4, l5, if_pos rfl]; exact ⟨0, rfl, rfl⟩
      · rw [l2, if_neg n10, counts_ok, bnd_some, f1, f2]
        refine ⟨_, rfl, ?_⟩
        have b : cnt (fun s => decide (¬ fa 8 s = 0)) 1200 = cnt (fun s => decide (ga 3 s = 1)) 1200 + cnt (fun s => decide (fa 8 s = 2)) 1200 := cnt_add (fun s hs => by
          rw [← (k s hs).1]
          simp only [decide_eq_true_eq]
          rcases (k s hs).2 with q | q | q <;> rw [q] <;> decide)
        rw [pk_sub (by omega), b, Nat.add_sub_cancel]
    rw [if_neg c2, if_neg c2]
    by_cases c3 : x1 = 3
    · rw [if_pos c3, if_pos c3]
      rcases hl with ⟨_, l2, _, l4, l5⟩ | ⟨_, l2, _, k, _, f1, f2⟩
      · rw [l2, l5, if_pos rfl]; exact ⟨0, rfl, rfl⟩
      · rw [l2, if_neg n10, counts_ok, bnd_some, f2]
        refine ⟨_, rfl, ?_⟩
        have b : cnt (fun s => decide (ga 3 s = 2)) 1200 = cnt (fun s => decide (fa 8 s = 2)) 1200 := cnt_congr (fun s hs => by rw [(k s hs).1])
        rw [b]
    rw [if_neg c3, if_neg c3]
    by_cases c4 : x1 = 4
    · rw [if_pos c4, if_pos c4]
      rcases hw with ⟨_, l1, _, _, l2, _⟩ | ⟨_, l2, _, m, E, D, l1, e2, _⟩
      · rw [l1, l2, if_pos rfl]; exact ⟨0, rfl, rfl⟩
      · rw [l1, l2, e2, if_neg n10]; exact ⟨nI m, rfl, rfl⟩
    rw [if_neg c4, if_neg c4]
    by_cases c5 : x1 = 5
    · rw [if_pos c5, if_pos c5]
      have no : fi 12 = 0 → gi 4 = 0 → ∃ r : Int32, (if fi 12 = 0 then some 0 else some 1) = some r ∧ (if gi 4 = 0 then some (0, 0) else some (1, 0)) = some (r, (0 : Int32)) := fun p1 p2 => by
        rw [p1, p2, if_pos rfl, if_pos rfl]; exact ⟨0, rfl, rfl⟩
      rcases hw with ⟨_, _, p1, _, _, p2⟩ | ⟨_, _, _, m, E, D, _, _, _, _, ⟨p1, _, p2⟩ | ⟨p1, p2, _⟩⟩
      · exact no p1 p2
      · exact no p1 p2
      · rw [p1, p2, if_neg n10, if_neg n10]; exact ⟨1, rfl, rfl⟩
    rw [if_neg c5, if_neg c5]
    by_cases c6 : x1 = 6
    · rw [if_pos c6, if_pos c6, hs.1]
      exact ⟨gi 6, rfl, rfl⟩
    rw [if_neg c6, if_neg c6]
    by_cases c7 : x1 = 7
    · rw [if_pos c7, if_pos c7]
      rcases hl with ⟨_, l2, l3, _⟩ | ⟨_, l2, ⟨k, _, k1, k2⟩, _⟩
      · rw [l2, l3, if_pos rfl]; exact ⟨0, rfl, rfl⟩
      · rw [l2, k1, k2, if_neg n10]; exact ⟨nI k, rfl, rfl⟩
    rw [if_neg c7, if_neg c7]
    exact ⟨-1, rfl, rfl⟩
  obtain ⟨r, a, b⟩ := val
  exact ⟨r, a, r, 0, b, rfl, h'⟩
theorem o_row (h : Inv9 fa fi ga gi) (x1 x2 : Int32) : St_row Inv9 fa fi ga gi x1 x2 := by
  have h' := h
  obtain ⟨hr, hl, hs, hp, hw⟩ := h
  rcases hw with ⟨l1, _, _, _, l2, _⟩ | ⟨l1, l2, _, m, E, D, e1, e2, R, _⟩
  · unfold St_row X9_row X9_needRows X10_row X10_row_b18
    rw [l1, l2, if_pos rfl, if_pos rfl, thr1]
    exact Or.inr (Or.inl ⟨rfl, 0, 1, rfl, rfl, h'⟩)
  · have A : ∀ (z : Option (Nat ⊕ Int32)), X9_row (fi 10) (fi 11) (fa 22) (fa 21) (fa 14) x1 x2 = X9_row 1 (nI m) (fa 22) (fa 21) (fa 14) x1 x2 := fun _ => by rw [l1, e1]
    have B : ∀ (z : Option (Nat ⊕ Int32)), X10_row (gi 0) (gi 3) (gi 5) (ga 8) (ga 7) (ga 5) x1 x2 = X10_row (gi 0) 1 (nI m) (ga 8) (ga 7) (ga 5) x1 x2 := fun _ => by rw [l2, e2]
    have m60 := R.1
    have bad : X9_row 1 (nI m) (fa 22) (fa 21) (fa 14) x1 x2 = some (.inl 5) → X10_row (gi 0) 1 (nI m) (ga 8) (ga 7) (ga 5) x1 x2 = some (0, 2) → St_row Inv9 fa fi ga gi x1 x2 := fun y1 y2 =>
      Or.inr (Or.inr ⟨(A none).trans y1, 0, 2, (B none).trans y2, rfl, h'⟩)
    have good : ∀ r, X9_row 1 (nI m) (fa 22) (fa 21) (fa 14) x1 x2 = some (.inr r) → X10_row (gi 0) 1 (nI m) (ga 8) (ga 7) (ga 5) x1 x2 = some (r, 0) → St_row Inv9 fa fi ga gi x1 x2 := fun r y1 y2 =>
      Or.inl ⟨r, (A none).trans y1, r, 0, (B none).trans y2, rfl, rfl, h'⟩
    have i1 : X9_needRows 1 = some (.inr ()) := by unfold X9_needRows; rw [if_neg n10]; rfl
    by_cases c : x1 < 0
    · refine bad ?_ ?_
      · unfold X9_row
        simp only [i1, bnd_some, Sum.elim_inr, if_pos c]
      · unfold X10_row X10_row_b18 X10_row_b47 X10_row_b52
        simp only [if_neg n10, thr0, thr1, bnd_some, un2_mk, if_true, if_pos c]
    obtain ⟨k, hk, rfl⟩ := nI_of c
    by_cases d : k < m
    · have cd1 : nI k < nI m := nI_lt d (by omega)
      have cd2 : ¬ nI m ≤ nI k := nI_ge d (by omega)
      obtain ⟨E0, E0', E0l, E0k⟩ := R.2.2.1 (2 * k) (by omega)
      obtain ⟨E1, E1', E1l, E1k⟩ := R.2.2.1 (2 * k + 1) (by omega)
      have tk : (2 : Int32) * nI k = nI (2 * k) := pk_mul 2 k
      have g1 : ag (fa 22) (nI (2 * k)) = nI (E (2 * k)) := by rw [ag_nI (by omega), E0]
      have g2 : ag (ga 8) (nI (2 * k)) = nI (E (2 * k)) := by rw [ag_nI (by omega), E0']
      have g3 : ag (fa 22) (nI (2 * k + 1)) = nI (E (2 * k + 1)) := by rw [ag_nI (by omega), E1]
      have g4 : ag (ga 8) (nI (2 * k + 1)) = nI (E (2 * k + 1)) := by rw [ag_nI (by omega), E1']
      have s1 : ag (fa 14) (nI (E (2 * k))) = ag (ga 5) (nI (E (2 * k))) := by rw [ag_nI (by omega), ag_nI (by omega), R.2.2.2.1 _ E0l E0k]
      have ia := ix_nI (show 2 * k < 120 by omega) (show 120 < 2 ^ 31 by decide)
      have ib := ix_nI (show 2 * k + 1 < 120 by omega) (show 120 < 2 ^ 31 by decide)
      have ja := ix_nI (show 2 * k < 122 by omega) (show 122 < 2 ^ 31 by decide)
      have jb := ix_nI (show 2 * k + 1 < 122 by omega) (show 122 < 2 ^ 31 by decide)
      have ie := ix_nI E0l (show 1200 < 2 ^ 31 by decide)
      have ik := ix_nI (show k < 61 by omega) (show 61 < 2 ^ 31 by decide)
      have ik1 := ix_nI (show k + 1 < 61 by omega) (show 61 < 2 ^ 31 by decide)
      obtain ⟨S, p, _, p2, _, _, p5⟩ := R.2.2.2.2.1
      obtain ⟨q1, q2, q3, _⟩ := p5 k d
      have z1 : ag (fa 21) (nI (k + 1)) - ag (fa 21) (nI k) = ag (ga 7) (nI k) := by
        rw [ag_nI (by omega), ag_nI (by omega), ag_nI (by omega), p2 _ (by omega), p2 _ (by omega), q3, pk_sub (by omega)]
      have pre1 : X9_row 1 (nI m) (fa 22) (fa 21) (fa 14) (nI k) x2 = (if x2 = 0 then some (.inr (ag (ga 5) (nI (E (2 * k))))) else (if x2 = 1 then some (.inr (ag (ga 7) (nI k))) else (if x2 = 2 then some (.inr (nI (E (2 * k)) - nI (E (2 * k)) / 40 * 40)) else (if x2 = 3 then some (.inr (nI (E (2 * k)) / 40)) else (if x2 = 4 then some (.inr (nI (E (2 * k + 1)) - nI (E (2 * k + 1)) / 40 * 40)) else (if x2 = 5 then some (.inr (nI (E (2 * k + 1)) / 40)) else some (.inl 5))))))) := by
        unfold X9_row
        simp only [i1, bnd_some, Sum.elim_inr, if_neg c, if_pos cd1, tk, nI_1, ck_t ia, ck_t ib, ck_t ik, ck_t ik1, g1, g3, ck_t ie, s1, z1, rmap_some]
      have pre2 : ¬ x2 < 0 → x2 ≤ 5 → X10_row (gi 0) 1 (nI m) (ga 8) (ga 7) (ga 5) (nI k) x2 = (if x2 = 0 then some (ag (ga 5) (nI (E (2 * k))), 0) else (if x2 = 1 then some (ag (ga 7) (nI k), 0) else (if x2 = 2 then some (nI (E (2 * k)) - nI (E (2 * k)) / 40 * 40, 0) else (if x2 = 3 then some (nI (E (2 * k)) / 40, 0) else (if x2 = 4 then some (nI (E (2 * k + 1)) - nI (E (2 * k + 1)) / 40 * 40, 0) else some (nI (E (2 * k + 1)) / 40, 0)))))) := fun y1 y2 => by
        unfold X10_row X10_row_b18 X10_row_b52
        simp only [if_neg n10, thr0, bnd_some, un2_mk, if_true, if_neg c, if_neg cd2, if_neg y1, if_pos y2, tk, nI_1, ck_t ja, ck_t jb, ck_t ik, g2, g4, ck_t ie]
      by_cases y1 : x2 < 0
      · refine bad ?_ ?_
        · have ne : ∀ j : Int32, ¬ j < 0 → ¬ x2 = j := fun j hj e => hj (e ▸ y1)
          rw [pre1, if_neg (ne 0 (by decide)), if_neg (ne 1 (by decide)), if_neg (ne 2 (by decide)), if_neg (ne 3 (by decide)), if_neg (ne 4 (by decide)), if_neg (ne 5 (by decide))]
        · unfold X10_row X10_row_b18 X10_row_b47 X10_row_b52
          simp only [if_neg n10, thr0, thr1, bnd_some, un2_mk, if_true, if_neg c, if_neg cd2, if_pos y1]
      by_cases y2 : x2 ≤ 5
      · obtain ⟨j, j1, rfl⟩ := nat_ofle (m := 5) (n := 5) rfl (by decide) y1 y2
        rw [pre1] at good
        rw [pre2 y1 y2] at good
        rcases (show j = 0 ∨ j = 1 ∨ j = 2 ∨ j = 3 ∨ j = 4 ∨ j = 5 by omega) with rfl | rfl | rfl | rfl | rfl | rfl
        all_goals exact good _ rfl rfl
      · refine bad ?_ ?_
        · have ne : ∀ j : Int32, j ≤ 5 → ¬ x2 = j := fun j hj e => y2 (e ▸ hj)
          rw [pre1, if_neg (ne 0 (by decide)), if_neg (ne 1 (by decide)), if_neg (ne 2 (by decide)), if_neg (ne 3 (by decide)), if_neg (ne 4 (by decide)), if_neg (ne 5 (by decide))]
        · unfold X10_row X10_row_b18 X10_row_b47 X10_row_b52
          simp only [if_neg n10, thr0, thr1, bnd_some, un2_mk, if_true, if_neg c, if_neg cd2, if_neg y1, if_neg y2]
    · have cd1 : ¬ nI k < nI m := nI_nlt (by omega) hk
      have cd2 : nI m ≤ nI k := nI_le (by omega) hk
      refine bad ?_ ?_
      · unfold X9_row
        simp only [i1, bnd_some, Sum.elim_inr, if_neg c, if_neg cd1]
      · unfold X10_row X10_row_b18 X10_row_b47 X10_row_b52
        simp only [if_neg n10, thr0, thr1, bnd_some, un2_mk, if_true, if_neg c, if_pos cd2]
/-- the land, where rows are -/
theorem landOf {laid hd fc ic : Int32} {kd nr : Ar} {il hd' : Int32} {wh : Ar} (h : ILand laid hd fc ic kd nr il hd' wh) (h1 : laid = 1) : il = 1 ∧ LandOK hd fc ic kd nr hd' wh := by
  rcases h with ⟨l1, _⟩ | ⟨_, l2, l3⟩
  · rw [l1] at h1; exact absurd h1 (by decide)
  · exact ⟨l2, l3⟩
theorem o_way (h : Inv9 fa fi ga gi) (x1 x2 x3 x4 : Int32) : St_way Inv9 fa fi ga gi x1 x2 x3 x4 := by
  have h' := h
  obtain ⟨hr, hl, hs, hp, hw⟩ := h
  rcases hl with ⟨l1, l2, _⟩ | ⟨l1, l2, lo⟩
  · unfold St_way X9_way X9_needLaid X10_way X10_way_b18
    rw [l1, l2, if_pos rfl, if_pos rfl, thr1]
    exact Or.inr ⟨rfl, 0, 1, gi 10, ga 18, ga 20, ga 19, rfl, rfl, h'⟩
  · left
    have i1 : X9_needLaid 1 = some (.inr ()) := by unfold X9_needLaid; rw [if_neg n10]; rfl
    have none' : X9_way (fi 4) (fi 8) (fi 9) (fa 8) (fa 9) (fa 11) (fa 13) (fa 12) x1 x2 x3 x4 = some (.inr (-1, fi 8, fi 9, fa 11, fa 13, fa 12)) → X10_way (gi 0) (gi 1) (gi 10) (ga 18) (ga 20) (ga 19) (ga 3) x1 x2 x3 x4 = some (-1, 0, gi 10, ga 18, ga 20, ga 19) → ∃ (r o1 o2 : Int32) (o3 o4 o5 : Ar), X9_way (fi 4) (fi 8) (fi 9) (fa 8) (fa 9) (fa 11) (fa 13) (fa 12) x1 x2 x3 x4 = some (.inr (r, o1, o2, o3, o4, o5)) ∧ ∃ (b m_thrown m_source : Int32) (m_far m_isWaiting m_waiting : Ar), X10_way (gi 0) (gi 1) (gi 10) (ga 18) (ga 20) (ga 19) (ga 3) x1 x2 x3 x4 = some (b, m_thrown, m_source, m_far, m_isWaiting, m_waiting) ∧ m_thrown = 0 ∧ r = b ∧ Inv9 (va_up (va_up (va_up fa 11 o3) 12 o5) 13 o4) (va_up (va_up fi 8 o1) 9 o2) (va_up (va_up (va_up ga 18 m_far) 19 m_waiting) 20 m_isWaiting) (va_up (va_up gi 0 m_thrown) 10 m_source) := fun y1 y2 =>
      ⟨-1, fi 8, fi 9, fa 11, fa 13, fa 12, y1, -1, 0, gi 10, ga 18, ga 20, ga 19, y2, rfl, rfl, hr, Or.inr ⟨l1, l2, lo⟩, hs, hp, hw⟩
    rcases isSquare_ok x1 x2 with ⟨a, b, a1, b1, rfl, rfl, s1, s2⟩ | ⟨s1, s2⟩
    · rcases isSquare_ok x3 x4 with ⟨a', b', a1', b1', rfl, rfl, s3, s4⟩ | ⟨s3, s4⟩
      · have e : (40 : Int32) * nI b + nI a = nI (40 * b + a) := by rw [mul40, nI_add]
        have e' : (40 : Int32) * nI b' + nI a' = nI (40 * b' + a') := by rw [mul40, nI_add]
        have sl : 40 * b + a < 1200 := by omega
        have sl' : 40 * b' + a' < 1200 := by omega
        have q1 := squareAt_nI a b
        have q2 := squareAt_nI a' b'
        generalize 40 * b + a = s at e sl q1
        generalize 40 * b' + a' = t at e' sl' q2
        have ic := ix_nI sl (show 1200 < 2 ^ 31 by decide)
        have ic' := ix_nI sl' (show 1200 < 2 ^ 31 by decide)
        have g1 : ag (fa 8) (nI s) = fa 8 s := ag_nI (by omega)
        have g2 : ag (ga 3) (nI s) = fa 8 s := by rw [ag_nI (by omega), (lo.2.1 s sl).1]
        have g3 : ag (fa 8) (nI t) = fa 8 t := ag_nI (by omega)
        have g4 : ag (ga 3) (nI t) = fa 8 t := by rw [ag_nI (by omega), (lo.2.1 t sl').1]
        by_cases k1 : fa 8 s = 0
        · refine none' ?_ ?_
          · unfold X9_way
            simp only [l1, i1, rmap_some, bnd_some, Sum.elim_inr, s1, s3, if_neg n10, q1, q2, ck_t ic, g1, if_pos k1]
          · unfold X10_way X10_way_b18
            simp only [l2, if_neg n10, thr0, bnd_some, un2_mk, if_true, s2, s4, e, ck_t ic, g2, if_pos k1]
        · by_cases k2 : fa 8 t = 0
          · refine none' ?_ ?_
            · unfold X9_way
              simp only [l1, i1, rmap_some, bnd_some, Sum.elim_inr, s1, s3, if_neg n10, q1, q2, ck_t ic, ck_t ic', g1, g3, if_neg k1, if_pos k2]
            · unfold X10_way X10_way_b18
              simp only [l2, if_neg n10, thr0, bnd_some, un2_mk, if_true, s2, s4, e, e', ck_t ic, ck_t ic', g2, g4, if_neg k1, if_pos k2]
          · obtain ⟨n1, n2, len', sla', str', w1, L, w2⟩ := measure_ok lo.2.2.1 sl (fi 8) (fi 9) (fa 11) (fa 13) (fa 12)
            obtain ⟨far', iw', wt', v1, L2, v2, v3⟩ := reaches_ok (wh := ga 3) sl (gi 10) (ga 18) (ga 20) (ga 19)
            obtain ⟨x5, x6⟩ := w2 t sl'
            have dd := x6 k2
            have ew := endWay_ok v2 v3 sl sl' (Dst_congr (fun s hs => (lo.2.1 s hs).1) dd)
            have bd : L t ≤ 16807 ∨ L t = 1000000 := by
              rcases dd with ⟨_, z⟩ | ⟨_, z, _⟩ | ⟨_, z, _⟩ <;> omega
            have on := orNone_ok (v := L t) (by omega)
            rw [← tnv_svR bd] at on
            have g5 : ag len' (nI t) = nI (L t) := by rw [ag_nI (by omega), x5]
            have ew' : X10_endWay (nI s) far' (ga 3) (nI t) = some (tnv (L t)) := ew
            refine ⟨tnv (L t), n1, n2, len', sla', str', ?_, tnv (L t), 0, nI s, far', iw', wt', ?_, rfl, rfl, hr, Or.inr ⟨l1, l2, lo⟩, hs, hp, hw⟩
            · unfold X9_way
              simp only [l1, i1, rmap_some, bnd_some, Sum.elim_inr, s1, s3, if_neg n10, q1, q2, ck_t ic, ck_t ic', g1, g3, if_neg k1, if_neg k2, w1, un5_mk, g5, on]
            · unfold X10_way X10_way_b18
              simp only [l2, if_neg n10, thr0, bnd_some, un2_mk, if_true, s2, s4, e, e', ck_t ic, ck_t ic', g2, g4, if_neg k1, if_neg k2, v1, un4_mk, ew']
      · refine none' ?_ ?_
        · unfold X9_way
          simp only [l1, i1, rmap_some, bnd_some, Sum.elim_inr, s1, s3, if_neg n10, if_true]
        · unfold X10_way X10_way_b18
          simp only [l2, if_neg n10, thr0, bnd_some, un2_mk, if_true, s2, s4]
    · refine none' ?_ ?_
      · unfold X9_way
        simp only [l1, i1, rmap_some, bnd_some, Sum.elim_inr, s1, if_true]
      · unfold X10_way X10_way_b18
        simp only [l2, if_neg n10, thr0, bnd_some, un2_mk, if_true, s2]
end OPS8
