/-! rings, land, rows -/
theorem un15_mk {T0 T1 T2 T3 T4 T5 T6 T7 T8 T9 T10 T11 T12 T13 T14 δ : Type} (k : T0 → T1 → T2 → T3 → T4 → T5 → T6 → T7 → T8 → T9 → T10 → T11 → T12 → T13 → T14 → δ) (x0 : T0) (x1 : T1) (x2 : T2) (x3 : T3) (x4 : T4) (x5 : T5) (x6 : T6) (x7 : T7) (x8 : T8) (x9 : T9) (x10 : T10) (x11 : T11) (x12 : T12) (x13 : T13) (x14 : T14) : un15 k (x0, x1, x2, x3, x4, x5, x6, x7, x8, x9, x10, x11, x12, x13, x14) = k x0 x1 x2 x3 x4 x5 x6 x7 x8 x9 x10 x11 x12 x13 x14 := rfl
theorem un23_mk {T0 T1 T2 T3 T4 T5 T6 T7 T8 T9 T10 T11 T12 T13 T14 T15 T16 T17 T18 T19 T20 T21 T22 δ : Type} (k : T0 → T1 → T2 → T3 → T4 → T5 → T6 → T7 → T8 → T9 → T10 → T11 → T12 → T13 → T14 → T15 → T16 → T17 → T18 → T19 → T20 → T21 → T22 → δ) (x0 : T0) (x1 : T1) (x2 : T2) (x3 : T3) (x4 : T4) (x5 : T5) (x6 : T6) (x7 : T7) (x8 : T8) (x9 : T9) (x10 : T10) (x11 : T11) (x12 : T12) (x13 : T13) (x14 : T14) (x15 : T15) (x16 : T16) (x17 : T17) (x18 : T18) (x19 : T19) (x20 : T20) (x21 : T21) (x22 : T22) : un23 k (x0, x1, x2, x3, x4, x5, x6, x7, x8, x9, x10, x11, x12, x13, x14, x15, x16, x17, x18, x19, x20, x21, x22) = k x0 x1 x2 x3 x4 x5 x6 x7 x8 x9 x10 x11 x12 x13 x14 x15 x16 x17 x18 x19 x20 x21 x22 := rfl
section OPS6
variable {fa : Nat → Ar} {fi : Nat → Int32} {ga : Nat → Ar} {gi : Nat → Int32}
theorem o_lay (h : Inv9 fa fi ga gi) (x1 : Int32) : St_lay Inv9 fa fi ga gi x1 := by
  have h' := h
  obtain ⟨hr, hl, hs, hp, hw⟩ := h
  have bad : (x1 < 0 ∨ (¬ x1 < 0 ∧ ¬ x1 ≤ 5)) → St_lay Inv9 fa fi ga gi x1 := fun c => by
    refine Or.inr ⟨?_, 0, 1, gi 1, gi 2, gi 3, gi 4, ga 3, ?_, rfl, hr, hl, hs, hp, hw⟩
    · unfold X9_lay
      rcases c with c | ⟨c, d⟩
      · rw [if_pos c]
      · rw [if_neg c, if_neg d]
    · unfold X10_lay X10_lay_b15 X10_lay_b20
      rcases c with c | ⟨c, d⟩
      · simp only [if_pos c, thr1, bnd_some, un2_mk, if_neg n10]
      · simp only [if_neg c, if_neg d, thr1, bnd_some, un2_mk, if_neg n10]
  by_cases c : x1 < 0
  · exact bad (Or.inl c)
  by_cases d : x1 ≤ 5
  · obtain ⟨j, j1, rfl⟩ := nat_ofle (m := 5) (n := 5) rfl (by decide) c d
    obtain ⟨kn, f1, f2⟩ := forgetLand_ok (fi 4) (fi 5) (fi 6) (fi 7) (fi 12) (fi 13) (fi 10) (fi 11) (fa 24)
    obtain ⟨fc', ic', dep', kd', nr', wh', wh1, a1, a2, a3, a4, a5⟩ := lay_ok hr.1 hr.2.1 hr.2.2.1 hr.2.2.2 0 0 0 0 (fa 10) (fa 8) (fa 9) (ga 3) j1
    have e : (1200 : Int32) - (1200 - fc') = fc' := by
      rw [a5.2.2.2.1]
      have := cnt_le (fun s => decide (¬ kd' s = 0)) 1200
      rw [show (1200 : Int32) = nI 1200 from rfl, pk_sub (by omega), pk_sub (by omega)]
      exact congrArg nI (by omega)
    refine Or.inl ⟨fc', 1, nI j, fc', ic', 0, 0, 0, 0, dep', kd', nr', kn, ?_, fc', 0, 1, nI j, 0, 0, wh', ?_, rfl, rfl, hr, Or.inr ⟨rfl, rfl, a5⟩, hs, hp, Or.inl ⟨rfl, rfl, rfl, rfl, rfl, rfl⟩⟩
    · unfold X9_lay
      simp only [if_neg c, if_pos d, f1, bnd_some, un9_mk, a1, un7_mk, rmap_some]
    · unfold X10_lay X10_lay_b20 X10_takesAway
      simp only [if_neg c, if_pos d, thr0, bnd_some, un2_mk, if_true, un3_mk, a2, a3, a4, e]
  · exact bad (Or.inr ⟨c, d⟩)
theorem o_clear (h : Inv9 fa fi ga gi) (x1 : Int32) : St_clear Inv9 fa fi ga gi x1 := by
  have h' := h
  obtain ⟨hr, hl, hs, hp, hw⟩ := h
  rcases ring_of (x := x1) with ⟨r, r1, rfl, r2, r3, r4⟩ | ⟨r2, r3⟩
  · obtain ⟨kn, f1, f2⟩ := forgetLand_ok (fi 4) (fi 5) (fi 6) (fi 7) (fi 12) (fi 13) (fi 10) (fi 11) (fa 24)
    have ic := ix_nI r1 (show 4 < 2 ^ 31 by decide)
    have au1 : au (ga 2) (nI r) 0 = upd (ga 2) r 0 := au_nI (by omega)
    have g1 : ag (ga 2) (nI r) = ga 2 r := ag_nI (by omega)
    have ref : X10_clear (gi 0) (gi 1) (gi 3) (gi 4) (ga 2) (nI r) = some (ga 2 r, 0, 0, 0, 0, upd (ga 2) r 0) := by
      unfold X10_clear X10_clear_b20 X10_takesAway
      simp only [if_neg r3, if_pos r4, thr0, bnd_some, un2_mk, if_true, ck_t ic, nm_eq, g1, au1, un3_mk]
    obtain ⟨q0, q1, q2, q3⟩ := hr
    rcases (show r = 0 ∨ r = 1 ∨ r = 2 ∨ r = 3 by omega) with rfl | rfl | rfl | rfl
    · obtain ⟨k, _, k1, k2, _⟩ := q0
      refine Or.inl ⟨fi 0, 0, 0, 0, 0, 0, 0, 0, 0, kn, 0, fi 1, fi 2, fi 3, ?_, ga 2 0, 0, 0, 0, 0, upd (ga 2) 0 0, ref, rfl, by rw [k1, k2], ⟨ring_clear, ring_other2 q1 (by decide), ring_other2 q2 (by decide), ring_other2 q3 (by decide)⟩, Or.inl ⟨rfl, rfl, rfl, rfl, rfl⟩, hs, hp, Or.inl ⟨rfl, rfl, rfl, rfl, rfl, rfl⟩⟩
      unfold X9_clear X1_drop
      simp only [r2, bnd_some, Sum.elim_inr, f1, un9_mk, if_pos (show nI 0 = 0 from rfl), un2_mk, rmap_some]
    · obtain ⟨k, _, k1, k2, _⟩ := q1
      refine Or.inl ⟨fi 1, 0, 0, 0, 0, 0, 0, 0, 0, kn, fi 0, 0, fi 2, fi 3, ?_, ga 2 1, 0, 0, 0, 0, upd (ga 2) 1 0, ref, rfl, by rw [k1, k2], ⟨ring_other2 q0 (by decide), ring_clear, ring_other2 q2 (by decide), ring_other2 q3 (by decide)⟩, Or.inl ⟨rfl, rfl, rfl, rfl, rfl⟩, hs, hp, Or.inl ⟨rfl, rfl, rfl, rfl, rfl, rfl⟩⟩
      unfold X9_clear X1_drop
      simp only [r2, bnd_some, Sum.elim_inr, f1, un9_mk, if_neg (show ¬ nI 1 = 0 by decide), if_pos (show nI 1 = 1 from rfl), un2_mk, rmap_some]
    · obtain ⟨k, _, k1, k2, _⟩ := q2
      refine Or.inl ⟨fi 2, 0, 0, 0, 0, 0, 0, 0, 0, kn, fi 0, fi 1, 0, fi 3, ?_, ga 2 2, 0, 0, 0, 0, upd (ga 2) 2 0, ref, rfl, by rw [k1, k2], ⟨ring_other2 q0 (by decide), ring_other2 q1 (by decide), ring_clear, ring_other2 q3 (by decide)⟩, Or.inl ⟨rfl, rfl, rfl, rfl, rfl⟩, hs, hp, Or.inl ⟨rfl, rfl, rfl, rfl, rfl, rfl⟩⟩
      unfold X9_clear X1_drop
      simp only [r2, bnd_some, Sum.elim_inr, f1, un9_mk, if_neg (show ¬ nI 2 = 0 by decide), if_neg (show ¬ nI 2 = 1 by decide), if_pos (show nI 2 = 2 from rfl), un2_mk, rmap_some]
    · obtain ⟨k, _, k1, k2, _⟩ := q3
      refine Or.inl ⟨fi 3, 0, 0, 0, 0, 0, 0, 0, 0, kn, fi 0, fi 1, fi 2, 0, ?_, ga 2 3, 0, 0, 0, 0, upd (ga 2) 3 0, ref, rfl, by rw [k1, k2], ⟨ring_other2 q0 (by decide), ring_other2 q1 (by decide), ring_other2 q2 (by decide), ring_clear⟩, Or.inl ⟨rfl, rfl, rfl, rfl, rfl⟩, hs, hp, Or.inl ⟨rfl, rfl, rfl, rfl, rfl, rfl⟩⟩
      unfold X9_clear X1_drop
      simp only [r2, bnd_some, Sum.elim_inr, f1, un9_mk, if_neg (show ¬ nI 3 = 0 by decide), if_neg (show ¬ nI 3 = 1 by decide), if_neg (show ¬ nI 3 = 2 by decide), if_pos (show nI 3 = 3 from rfl), un2_mk, rmap_some]
  · refine Or.inr ⟨?_, 0, 1, gi 1, gi 3, gi 4, ga 2, ?_, rfl, hr, hl, hs, hp, hw⟩
    · unfold X9_clear
      simp only [r2, bnd_some, Sum.elim_inl]
    · unfold X10_clear X10_clear_b15 X10_clear_b20
      rcases r3 with c | ⟨c, d⟩
      · simp only [if_pos c, thr1, bnd_some, un2_mk, if_neg n10]
      · simp only [if_neg c, if_neg d, thr1, bnd_some, un2_mk, if_neg n10]
theorem o_corner (h : Inv9 fa fi ga gi) (x1 x2 x3 : Int32) : St_corner Inv9 fa fi ga gi x1 x2 x3 := by
  have h' := h
  obtain ⟨hr, hl, hs, hp, hw⟩ := h
  rcases ring_of (x := x1) with ⟨r, r1, rfl, r2, r3, r4⟩ | ⟨r2, r3⟩
  · have bad2 : (x2 < 0 ∨ (¬ x2 < 0 ∧ 40 < x2) ∨ (¬ x2 < 0 ∧ ¬ 40 < x2 ∧ x3 < 0) ∨ (¬ x2 < 0 ∧ ¬ 40 < x2 ∧ ¬ x3 < 0 ∧ ¬ x3 ≤ 30)) → St_corner Inv9 fa fi ga gi (nI r) x2 x3 := fun c => by
      refine Or.inr (Or.inr (Or.inl ⟨?_, 0, 2, gi 1, gi 3, gi 4, ga 0, ga 1, ga 2, ?_, rfl, hr, hl, hs, hp, hw⟩))
      · unfold X9_corner
        rcases c with c | ⟨c, d⟩ | ⟨c, d, e⟩ | ⟨c, d, e, f⟩
        · simp only [r2, bnd_some, Sum.elim_inr, if_pos c]
        · simp only [r2, bnd_some, Sum.elim_inr, if_neg c, if_pos d]
        · simp only [r2, bnd_some, Sum.elim_inr, if_neg c, if_neg d, if_pos e]
        · simp only [r2, bnd_some, Sum.elim_inr, if_neg c, if_neg d, if_neg e, if_neg f]
      · unfold X10_corner X10_corner_b20 X10_corner_b48 X10_corner_b53
        simp only [if_neg r3, if_pos r4, thr0, thr1, bnd_some, un2_mk, if_true, if_neg n10]
        rcases c with c | ⟨c, d⟩ | ⟨c, d, e⟩ | ⟨c, d, e, f⟩
        · simp only [if_pos c]
        · by_cases e : x3 < 0
          · simp only [if_neg c, if_pos e]
          · simp only [if_neg c, if_neg e, if_pos d]
        · simp only [if_neg c, if_pos e]
        · simp only [if_neg c, if_neg d, if_neg e, if_neg f]
    by_cases c : x2 < 0
    · exact bad2 (Or.inl c)
    by_cases d : 40 < x2
    · exact bad2 (Or.inr (Or.inl ⟨c, d⟩))
    by_cases e : x3 < 0
    · exact bad2 (Or.inr (Or.inr (Or.inl ⟨c, d, e⟩)))
    by_cases f : x3 ≤ 30
    · obtain ⟨x, hx, rfl⟩ := nat_ofle (m := 40) (n := 40) rfl (by decide) c ((not_lt32 _ _).mp d)
      obtain ⟨y, hy, rfl⟩ := nat_ofle (m := 30) (n := 30) rfl (by decide) e f
      obtain ⟨kn, f1, f2⟩ := forgetLand_ok (fi 4) (fi 5) (fi 6) (fi 7) (fi 12) (fi 13) (fi 10) (fi 11) (fa 24)
      have ic := ix_nI r1 (show 4 < 2 ^ 31 by decide)
      have g1 : ag (ga 2) (nI r) = ga 2 r := ag_nI (by omega)
      have full : ga 2 r = 12 → X10_corner (gi 0) (gi 1) (gi 3) (gi 4) (ga 0) (ga 1) (ga 2) (nI r) (nI x) (nI y) = some (0, 3, gi 1, gi 3, gi 4, ga 0, ga 1, ga 2) := fun q => by
        unfold X10_corner X10_corner_b20 X10_corner_b53 X10_corner_b77
        simp only [if_neg r3, if_pos r4, thr0, thr1, bnd_some, un2_mk, if_true, if_neg c, if_neg d, if_neg e, if_pos f, ck_t ic, g1, q, if_neg n10]
      have ref : ∀ k, k < 12 → ga 2 r = nI k → X10_corner (gi 0) (gi 1) (gi 3) (gi 4) (ga 0) (ga 1) (ga 2) (nI r) (nI x) (nI y) = some (nI (k + 1), 0, 0, 0, 0, upd (ga 0) (12 * r + k) (nI x), upd (ga 1) (12 * r + k) (nI y), upd (ga 2) r (nI (k + 1))) := fun k k1 k2 => by
        have t : (12 : Int32) * nI r + nI k = nI (12 * r + k) := by rw [show (12 : Int32) * nI r = nI (12 * r) from pk_mul 12 r, nI_add]
        have ik := ix_nI (show 12 * r + k < 48 by omega) (show 48 < 2 ^ 31 by decide)
        have u1 : au (ga 0) (nI (12 * r + k)) (nI x) = upd (ga 0) (12 * r + k) (nI x) := au_nI (by omega)
        have u2 : au (ga 1) (nI (12 * r + k)) (nI y) = upd (ga 1) (12 * r + k) (nI y) := au_nI (by omega)
        have u3 : au (ga 2) (nI r) (nI (k + 1)) = upd (ga 2) r (nI (k + 1)) := au_nI (by omega)
        have g2 : ag (upd (ga 2) r (nI (k + 1))) (nI r) = nI (k + 1) := by rw [ag_nI (by omega), upd_at, if_pos rfl]
        have n12 : ¬ nI k = 12 := nI_ne (b := 12) (by omega) (by decide) (by omega)
        unfold X10_corner X10_corner_b20 X10_corner_b53 X10_corner_b77 X10_takesAway
        simp only [if_neg r3, if_pos r4, thr0, bnd_some, un2_mk, if_true, if_neg c, if_neg d, if_neg e, if_pos f, ck_t ic, g1, k2, if_neg n12, t, ck_t ik, nm_eq, u1, u2, nI_1, u3, un3_mk, g2]
      obtain ⟨q0, q1, q2, q3⟩ := hr
      rcases (show r = 0 ∨ r = 1 ∨ r = 2 ∨ r = 3 by omega) with rfl | rfl | rfl | rfl
      · by_cases n12 : fi 0 = 12
        · have z : ga 2 0 = 12 := by
            obtain ⟨k, _, k1, k2, _⟩ := q0
            rw [k2, ← k1, n12]
          refine Or.inr (Or.inr (Or.inr ⟨?_, 0, 3, gi 1, gi 3, gi 4, ga 0, ga 1, ga 2, full z, rfl, h'⟩))
          have fu : X1_isFull 12 12 = some 1 := by unfold X1_isFull; rw [if_neg (by decide)]
          unfold X9_corner
          simp only [r2, bnd_some, Sum.elim_inr, if_neg c, if_neg d, if_neg e, if_pos f, if_pos (show nI 0 = 0 from rfl), n12, fu, if_neg n10]
        · obtain ⟨k, a1, a2, a3, a4, a6, a5⟩ := add12_ok q0 hx hy n12 (by decide)
          refine Or.inl ⟨nI (k + 1), 0, 0, 0, 0, 0, 0, 0, 0, kn, nI (k + 1), fi 1, fi 2, fi 3, upd (fa 0) k (nI x), upd (fa 1) k (nI y), fa 2, fa 3, fa 4, fa 5, fa 6, fa 7, ?_, nI (k + 1), 0, 0, 0, 0, upd (ga 0) (12 * 0 + k) (nI x), upd (ga 1) (12 * 0 + k) (nI y), upd (ga 2) 0 (nI (k + 1)), ref k a1 a3, rfl, rfl, ⟨a5, ring_other q1 (by decide) a1, ring_other q2 (by decide) a1, ring_other q3 (by decide) a1⟩, Or.inl ⟨rfl, rfl, rfl, rfl, rfl⟩, hs, hp, Or.inl ⟨rfl, rfl, rfl, rfl, rfl, rfl⟩⟩
          unfold X9_corner
          simp only [r2, bnd_some, Sum.elim_inr, if_neg c, if_neg d, if_neg e, if_pos f, if_pos (show nI 0 = 0 from rfl), a4, if_true, f1, un9_mk, a6, un4_mk, rmap_some]
      · by_cases n12 : fi 1 = 12
        · have z : ga 2 1 = 12 := by
            obtain ⟨k, _, k1, k2, _⟩ := q1
            rw [k2, ← k1, n12]
          refine Or.inr (Or.inr (Or.inr ⟨?_, 0, 3, gi 1, gi 3, gi 4, ga 0, ga 1, ga 2, full z, rfl, h'⟩))
          have fu : X1_isFull 12 12 = some 1 := by unfold X1_isFull; rw [if_neg (by decide)]
          unfold X9_corner
          simp only [r2, bnd_some, Sum.elim_inr, if_neg c, if_neg d, if_neg e, if_pos f, if_neg (show ¬ nI 1 = 0 by decide), if_pos (show nI 1 = 1 from rfl), n12, fu, if_neg n10]
        · obtain ⟨k, a1, a2, a3, a4, a6, a5⟩ := add12_ok q1 hx hy n12 (by decide)
          refine Or.inl ⟨nI (k + 1), 0, 0, 0, 0, 0, 0, 0, 0, kn, fi 0, nI (k + 1), fi 2, fi 3, fa 0, fa 1, upd (fa 2) k (nI x), upd (fa 3) k (nI y), fa 4, fa 5, fa 6, fa 7, ?_, nI (k + 1), 0, 0, 0, 0, upd (ga 0) (12 * 1 + k) (nI x), upd (ga 1) (12 * 1 + k) (nI y), upd (ga 2) 1 (nI (k + 1)), ref k a1 a3, rfl, rfl, ⟨ring_other q0 (by decide) a1, a5, ring_other q2 (by decide) a1, ring_other q3 (by decide) a1⟩, Or.inl ⟨rfl, rfl, rfl, rfl, rfl⟩, hs, hp, Or.inl ⟨rfl, rfl, rfl, rfl, rfl, rfl⟩⟩
          unfold X9_corner
          simp only [r2, bnd_some, Sum.elim_inr, if_neg c, if_neg d, if_neg e, if_pos f, if_neg (show ¬ nI 1 = 0 by decide), if_pos (show nI 1 = 1 from rfl), a4, if_true, f1, un9_mk, a6, un4_mk, rmap_some]
      · by_cases n12 : fi 2 = 12
        · have z : ga 2 2 = 12 := by
            obtain ⟨k, _, k1, k2, _⟩ := q2
            rw [k2, ← k1, n12]
          refine Or.inr (Or.inr (Or.inr ⟨?_, 0, 3, gi 1, gi 3, gi 4, ga 0, ga 1, ga 2, full z, rfl, h'⟩))
          have fu : X1_isFull 12 12 = some 1 := by unfold X1_isFull; rw [if_neg (by decide)]
          unfold X9_corner
          simp only [r2, bnd_some, Sum.elim_inr, if_neg c, if_neg d, if_neg e, if_pos f, if_neg (show ¬ nI 2 = 0 by decide), if_neg (show ¬ nI 2 = 1 by decide), if_pos (show nI 2 = 2 from rfl), n12, fu, if_neg n10]
        · obtain ⟨k, a1, a2, a3, a4, a6, a5⟩ := add12_ok q2 hx hy n12 (by decide)
          refine Or.inl ⟨nI (k + 1), 0, 0, 0, 0, 0, 0, 0, 0, kn, fi 0, fi 1, nI (k + 1), fi 3, fa 0, fa 1, fa 2, fa 3, upd (fa 4) k (nI x), upd (fa 5) k (nI y), fa 6, fa 7, ?_, nI (k + 1), 0, 0, 0, 0, upd (ga 0) (12 * 2 + k) (nI x), upd (ga 1) (12 * 2 + k) (nI y), upd (ga 2) 2 (nI (k + 1)), ref k a1 a3, rfl, rfl, ⟨ring_other q0 (by decide) a1, ring_other q1 (by decide) a1, a5, ring_other q3 (by decide) a1⟩, Or.inl ⟨rfl, rfl, rfl, rfl, rfl⟩, hs, hp, Or.inl ⟨rfl, rfl, rfl, rfl, rfl, rfl⟩⟩
          unfold X9_corner
          simp only [r2, bnd_some, Sum.elim_inr, if_neg c, if_neg d, if_neg e, if_pos f, if_neg (show ¬ nI 2 = 0 by decide), if_neg (show ¬ nI 2 = 1 by decide), if_pos (show nI 2 = 2 from rfl), a4, if_true, f1, un9_mk, a6, un4_mk, rmap_some]
      · by_cases n12 : fi 3 = 12
        · have z : ga 2 3 = 12 := by
            obtain ⟨k, _, k1, k2, _⟩ := q3
            rw [k2, ← k1, n12]
          refine Or.inr (Or.inr (Or.inr ⟨?_, 0, 3, gi 1, gi 3, gi 4, ga 0, ga 1, ga 2, full z, rfl, h'⟩))
          have fu : X1_isFull 12 12 = some 1 := by unfold X1_isFull; rw [if_neg (by decide)]
          unfold X9_corner
          simp only [r2, bnd_some, Sum.elim_inr, if_neg c, if_neg d, if_neg e, if_pos f, if_neg (show ¬ nI 3 = 0 by decide), if_neg (show ¬ nI 3 = 1 by decide), if_neg (show ¬ nI 3 = 2 by decide), if_pos (show nI 3 = 3 from rfl), n12, fu, if_neg n10]
        · obtain ⟨k, a1, a2, a3, a4, a6, a5⟩ := add12_ok q3 hx hy n12 (by decide)
          refine Or.inl ⟨nI (k + 1), 0, 0, 0, 0, 0, 0, 0, 0, kn, fi 0, fi 1, fi 2, nI (k + 1), fa 0, fa 1, fa 2, fa 3, fa 4, fa 5, upd (fa 6) k (nI x), upd (fa 7) k (nI y), ?_, nI (k + 1), 0, 0, 0, 0, upd (ga 0) (12 * 3 + k) (nI x), upd (ga 1) (12 * 3 + k) (nI y), upd (ga 2) 3 (nI (k + 1)), ref k a1 a3, rfl, rfl, ⟨ring_other q0 (by decide) a1, ring_other q1 (by decide) a1, ring_other q2 (by decide) a1, a5⟩, Or.inl ⟨rfl, rfl, rfl, rfl, rfl⟩, hs, hp, Or.inl ⟨rfl, rfl, rfl, rfl, rfl, rfl⟩⟩
          unfold X9_corner
          simp only [r2, bnd_some, Sum.elim_inr, if_neg c, if_neg d, if_neg e, if_pos f, if_neg (show ¬ nI 3 = 0 by decide), if_neg (show ¬ nI 3 = 1 by decide), if_neg (show ¬ nI 3 = 2 by decide), if_pos (show nI 3 = 3 from rfl), a4, if_true, f1, un9_mk, a6, un4_mk, rmap_some]
    · exact bad2 (Or.inr (Or.inr (Or.inr ⟨c, d, e, f⟩)))
  · refine Or.inr (Or.inl ⟨?_, 0, 1, gi 1, gi 3, gi 4, ga 0, ga 1, ga 2, ?_, rfl, hr, hl, hs, hp, hw⟩)
    · unfold X9_corner
      simp only [r2, bnd_some, Sum.elim_inl]
    · unfold X10_corner X10_corner_b15 X10_corner_b20
      rcases r3 with c | ⟨c, d⟩
      · simp only [if_pos c, thr1, bnd_some, un2_mk, if_neg n10]
      · simp only [if_neg c, if_neg d, thr1, bnd_some, un2_mk, if_neg n10]
/-- twice the area, so far -/
def sA (fx fy : Ar) (n : Nat) : Nat → Int32
  | 0 => 0
  | j + 1 => sA fx fy n j + (fx j * fy ((j + 1) % n) - fx ((j + 1) % n) * fy j)
theorem area_ok {n : Int32} {fx fy : Ar} {r : Nat} {cx cy cn : Ar} (h : IRing n fx fy r cx cy cn) (hr : r < 4) : ∃ v, X5_twiceArea n fx fy = some v ∧ X10_area_b20 0 cx cy cn (nI r) 0 = some (v, 0) := by
  obtain ⟨k, hk, rfl, hc, hj⟩ := h
  have ic := ix_nI hr (show 4 < 2 ^ 31 by decide)
  have g1 : ag cn (nI r) = nI k := by rw [ag_nI (by omega), hc]
  by_cases c : 3 ≤ k
  · have c3 : (3 : Int32) ≤ nI k := nI_le (a := 3) c (by omega)
    have A : whileV (fun s => X5_twiceArea_L17 (nI k) fx fy s.1 s.2) (nI 0, nI 0) = some (sA fx fy k k) := by
      obtain ⟨v, h1, h2⟩ := whileV_up (body := fun s => X5_twiceArea_L17 (nI k) fx fy s.1 s.2) k
        (fun j s => s.2 = nI j ∧ s.1 = sA fx fy k j) (fun v => v = sA fx fy k k)
        (fun j s hj' hs => by
          obtain ⟨v, i⟩ := s
          obtain ⟨rfl, rfl⟩ := hs
          left
          have m1 : (j + 1) % k < k := Nat.mod_lt _ (by omega)
          have b1 : ag fx (nI j) = fx j := ag_nI (by omega)
          have b2 : ag fy (nI j) = fy j := ag_nI (by omega)
          have b3 : ag fx (nI ((j + 1) % k)) = fx ((j + 1) % k) := ag_nI (by omega)
          have b4 : ag fy (nI ((j + 1) % k)) = fy ((j + 1) % k) := ag_nI (by omega)
          refine ⟨(sA fx fy k (j + 1), nI (j + 1)), ?_, rfl, rfl⟩
          show X5_twiceArea_L17 (nI k) fx fy (sA fx fy k j) (nI j) = _
          unfold X5_twiceArea_L17
          simp only [if_neg (nI_ge hj' (show k < 2 ^ 31 by omega)), after_ok hj' hk, bnd_some, ck_t (ix_nI (show j < 12 by omega) (show 12 < 2 ^ 31 by decide)), ck_t (ix_nI (show (j + 1) % k < 12 by omega) (show 12 < 2 ^ 31 by decide)), nm_eq, b1, b2, b3, b4, nI_1]
          rfl)
        (fun s hs => by
          obtain ⟨v, i⟩ := s
          obtain ⟨rfl, rfl⟩ := hs
          refine ⟨sA fx fy k k, ?_, rfl⟩
          show X5_twiceArea_L17 (nI k) fx fy (sA fx fy k k) (nI k) = _
          unfold X5_twiceArea_L17
          rw [if_pos (nI_le (Nat.le_refl _) (by omega))]) 0 (nI 0, nI 0) (Nat.zero_le _) ⟨rfl, rfl⟩
      rw [h1, h2]
    have B : whileV (fun s => X10_area_L43 cx cy cn (nI r) s.1 s.2) (nI 0, nI 0) = some (sA fx fy k k) := by
      obtain ⟨v, h1, h2⟩ := whileV_up (body := fun s => X10_area_L43 cx cy cn (nI r) s.1 s.2) k
        (fun j s => s.2 = nI j ∧ s.1 = sA fx fy k j) (fun v => v = sA fx fy k k)
        (fun j s hj' hs => by
          obtain ⟨v, i⟩ := s
          obtain ⟨rfl, rfl⟩ := hs
          left
          have m1 : (j + 1) % k < k := Nat.mod_lt _ (by omega)
          have t1 : (12 : Int32) * nI r + nI j = nI (12 * r + j) := by rw [show (12 : Int32) * nI r = nI (12 * r) from pk_mul 12 r, nI_add]
          have t2 : (12 : Int32) * nI r + nI ((j + 1) % k) = nI (12 * r + (j + 1) % k) := by rw [show (12 : Int32) * nI r = nI (12 * r) from pk_mul 12 r, nI_add]
          have rm : nI (j + 1) - nI (j + 1) / nI k * nI k = nI ((j + 1) % k) := pk_rem (by omega) (by omega) (by omega)
          have nz' : nz (nI k) = true := by
            unfold nz
            exact decide_eq_true (nI_ne (b := 0) (by omega) (by decide) (by omega))
          have b1 : ag cx (nI (12 * r + j)) = fx j := by rw [ag_nI (by omega), (hj j hj').1]
          have b2 : ag cy (nI (12 * r + j)) = fy j := by rw [ag_nI (by omega), (hj j hj').2.1]
          have b3 : ag cx (nI (12 * r + (j + 1) % k)) = fx ((j + 1) % k) := by rw [ag_nI (by omega), (hj _ m1).1]
          have b4 : ag cy (nI (12 * r + (j + 1) % k)) = fy ((j + 1) % k) := by rw [ag_nI (by omega), (hj _ m1).2.1]
          refine ⟨(sA fx fy k (j + 1), nI (j + 1)), ?_, rfl, rfl⟩
          show X10_area_L43 cx cy cn (nI r) (sA fx fy k j) (nI j) = _
          unfold X10_area_L43
          simp only [ck_t ic, g1, if_neg (nI_ge hj' (show k < 2 ^ 31 by omega)), nm_eq, ck_t nz', nI_1, rm, t1, t2, ck_t (ix_nI (show 12 * r + j < 48 by omega) (show 48 < 2 ^ 31 by decide)), ck_t (ix_nI (show 12 * r + (j + 1) % k < 48 by omega) (show 48 < 2 ^ 31 by decide)), b1, b2, b3, b4]
          rfl)
        (fun s hs => by
          obtain ⟨v, i⟩ := s
          obtain ⟨rfl, rfl⟩ := hs
          refine ⟨sA fx fy k k, ?_, rfl⟩
          show X10_area_L43 cx cy cn (nI r) (sA fx fy k k) (nI k) = _
          unfold X10_area_L43
          rw [ck_t ic, g1, if_pos (nI_le (Nat.le_refl _) (by omega))]) 0 (nI 0, nI 0) (Nat.zero_le _) ⟨rfl, rfl⟩
      rw [h1, h2]
    have A' : whileV (fun s => X5_twiceArea_L17 (nI k) fx fy s.1 s.2) (0, 0) = some (sA fx fy k k) := A
    have B' : whileV (fun s => X10_area_L43 cx cy cn (nI r) s.1 s.2) (0, 0) = some (sA fx fy k k) := B
    refine ⟨ab (sA fx fy k k), ?_, ?_⟩
    · unfold X5_twiceArea
      rw [if_pos c3, A', bnd_some]
    · unfold X10_area_b20
      simp only [thr0, bnd_some, un2_mk, if_true, ck_t ic, g1, if_pos c3, B']
      by_cases z : 0 ≤ sA fx fy k k
      · rw [if_pos z]
        show _ = some (if 0 ≤ sA fx fy k k then sA fx fy k k else 0 - sA fx fy k k, 0)
        rw [if_pos z]
      · rw [if_neg z]
        show _ = some (if 0 ≤ sA fx fy k k then sA fx fy k k else 0 - sA fx fy k k, 0)
        rw [if_neg z, Int32.zero_sub]
  · have c3 : ¬ (3 : Int32) ≤ nI k := nI_ge (b := 3) (by omega) (by decide)
    refine ⟨0, ?_, ?_⟩
    · unfold X5_twiceArea
      rw [if_neg c3]
    · unfold X10_area_b20
      simp only [thr0, bnd_some, un2_mk, if_true, ck_t ic, g1, if_neg c3]
theorem o_area (h : Inv9 fa fi ga gi) (x1 : Int32) : St_area Inv9 fa fi ga gi x1 := by
  have h' := h
  obtain ⟨hr, hl, hs, hp, hw⟩ := h
  rcases ring_of (x := x1) with ⟨r, r1, rfl, r2, r3, r4⟩ | ⟨r2, r3⟩
  · obtain ⟨q0, q1, q2, q3⟩ := hr
    rcases (show r = 0 ∨ r = 1 ∨ r = 2 ∨ r = 3 by omega) with rfl | rfl | rfl | rfl
    · obtain ⟨v, v1, v2⟩ := area_ok q0 (by decide)
      refine Or.inl ⟨v, ?_, v, 0, ?_, rfl, rfl, h'⟩
      · unfold X9_area
        simp only [r2, bnd_some, Sum.elim_inr, if_pos (show nI 0 = 0 from rfl), v1, rmap_some]
      · unfold X10_area
        rw [if_neg r3, if_pos r4, v2]
    · obtain ⟨v, v1, v2⟩ := area_ok q1 (by decide)
      refine Or.inl ⟨v, ?_, v, 0, ?_, rfl, rfl, h'⟩
      · unfold X9_area
        simp only [r2, bnd_some, Sum.elim_inr, if_neg (show ¬ nI 1 = 0 by decide), if_pos (show nI 1 = 1 from rfl), v1, rmap_some]
      · unfold X10_area
        rw [if_neg r3, if_pos r4, v2]
    · obtain ⟨v, v1, v2⟩ := area_ok q2 (by decide)
      refine Or.inl ⟨v, ?_, v, 0, ?_, rfl, rfl, h'⟩
      · unfold X9_area
        simp only [r2, bnd_some, Sum.elim_inr, if_neg (show ¬ nI 2 = 0 by decide), if_neg (show ¬ nI 2 = 1 by decide), if_pos (show nI 2 = 2 from rfl), v1, rmap_some]
      · unfold X10_area
        rw [if_neg r3, if_pos r4, v2]
    · obtain ⟨v, v1, v2⟩ := area_ok q3 (by decide)
      refine Or.inl ⟨v, ?_, v, 0, ?_, rfl, rfl, h'⟩
      · unfold X9_area
        simp only [r2, bnd_some, Sum.elim_inr, if_neg (show ¬ nI 3 = 0 by decide), if_neg (show ¬ nI 3 = 1 by decide), if_neg (show ¬ nI 3 = 2 by decide), if_pos (show nI 3 = 3 from rfl), v1, rmap_some]
      · unfold X10_area
        rw [if_neg r3, if_pos r4, v2]
  · refine Or.inr ⟨?_, 0, 1, ?_, rfl, h'⟩
    · unfold X9_area
      simp only [r2, bnd_some, Sum.elim_inl]
    · unfold X10_area X10_area_b15 X10_area_b20
      rcases r3 with c | ⟨c, d⟩
      · simp only [if_pos c, thr1, bnd_some, un2_mk, if_neg n10]
      · simp only [if_neg c, if_neg d, thr1, bnd_some, un2_mk, if_neg n10]
theorem width_ok (x : Int32) : (∃ w, 1 ≤ w ∧ w ≤ 400 ∧ x = nI w ∧ X9_needWidth x = some (.inr ()) ∧ X10_isWidth x = some 1) ∨ (X9_needWidth x = some (.inl 2) ∧ X10_isWidth x = some 0) := by
  unfold X9_needWidth X10_isWidth
  by_cases c : x < 1
  · right
    rw [if_pos c, if_pos c]; exact ⟨rfl, rfl⟩
  · by_cases d : x ≤ 400
    · left
      have c0 : ¬ x < 0 := fun q => c (by
        rw [Int32.lt_iff_toInt_lt] at q ⊢
        have z : (0 : Int32).toInt = 0 := by decide
        have o : (1 : Int32).toInt = 1 := by decide
        omega)
      obtain ⟨w, w1, rfl⟩ := nat_ofle (m := 400) (n := 400) rfl (by decide) c0 d
      have w0 : 1 ≤ w := by
        rcases Nat.lt_or_ge w 1 with q | q
        · exact absurd (nI_lt (b := 1) q (by decide)) c
        · exact q
      refine ⟨w, w0, w1, rfl, ?_, ?_⟩
      · rw [if_neg c, if_pos d]; rfl
      · rw [if_neg c, if_neg ((not_lt32 _ _).mpr d)]
    · right
      rw [if_neg c, if_neg d, if_neg c, if_pos ((lt_or_le32 _ _).mpr d)]; exact ⟨rfl, rfl⟩
theorem o_rows (h : Inv9 fa fi ga gi) (x1 x2 x3 : Int32) : St_rows Inv9 fa fi ga gi x1 x2 x3 := by
  have h' := h
  obtain ⟨hr, hl, hs, hp, hw⟩ := h
  have hl' := hl
  rcases hl with ⟨l1, l2, _⟩ | ⟨l1, l2, lo⟩
  · unfold St_rows X9_rows X9_needLaid X10_rows X10_rows_b18
    rw [l1, l2, if_pos rfl, if_pos rfl, thr1]
    exact Or.inr (Or.inl ⟨rfl, 0, 1, gi 3, gi 4, gi 5, gi 10, ga 6, ga 8, ga 18, ga 20, ga 17, ga 4, ga 7, ga 5, ga 9, ga 19, rfl, rfl, h'⟩)
  · have i1 : X9_needLaid 1 = some (.inr ()) := by unfold X9_needLaid; rw [if_neg n10]; rfl
    have bad : X9_rows 1 (fi 7) (fi 12) (fi 13) (fi 10) (fi 11) (fa 8) (fa 9) (fa 15) (fa 22) (fa 16) (fa 17) (fa 18) (fa 20) (fa 21) (fa 14) (fa 19) (fa 24) x1 x2 x3 = some (.inl 2) → X10_rows (gi 0) 1 (gi 3) (gi 4) (gi 5) (gi 10) (ga 6) (ga 8) (ga 18) (ga 20) (ga 17) (ga 4) (ga 7) (ga 5) (ga 9) (ga 19) (ga 3) x1 x2 x3 = some (0, 2, gi 3, gi 4, gi 5, gi 10, ga 6, ga 8, ga 18, ga 20, ga 17, ga 4, ga 7, ga 5, ga 9, ga 19) → St_rows Inv9 fa fi ga gi x1 x2 x3 := fun y1 y2 =>
      Or.inr (Or.inr ⟨by rw [l1]; exact y1, 0, 2, gi 3, gi 4, gi 5, gi 10, ga 6, ga 8, ga 18, ga 20, ga 17, ga 4, ga 7, ga 5, ga 9, ga 19, by rw [l2]; exact y2, rfl, h'⟩)
    rcases isSlant_ok (a := x1) (b := x2) with ⟨s1, s2⟩ | ⟨s1, s2⟩
    · rcases width_ok x3 with ⟨w, w0, w1, rfl, v1, v2⟩ | ⟨v1, v2⟩
      · obtain ⟨kn, f1, f2⟩ := forgetRows_ok (fi 12) (fi 13) (fi 10) (fi 11) (fa 24)
        rcases make_pair lo.2.2.1 (fun s hs => (lo.2.1 s hs).1) s2 w0 w1 rfl 0 0 (fa 15) (fa 22) (fa 16) (fa 17) (fa 18) (fa 20) (fa 21) (fa 14) (fa 19) (gi 3) (gi 4) (gi 5) (gi 10) (ga 6) (ga 8) (ga 18) (ga 20) (ga 17) (ga 4) (ga 7) (ga 5) (ga 9) (ga 19) with ⟨m, al', en', nu', so', sp', sq', sta', st', ta', src', alr', enr', far', iw', pl', ro', rs', str', tu', wa', E, D, a1, a2, a3⟩ | ⟨al', en', nu', so', sp', sq', sta', st', ta', src', alr', enr', far', iw', pl', ro', rs', str', tu', wa', a1, a2⟩
        · rw [← lo.2.2.2.2] at a1
          refine Or.inl ⟨nI m, 0, 0, 1, nI m, al', en', nu', so', sp', sq', sta', st', ta', kn, ?_, nI m, 0, 1, 0, nI m, src', alr', enr', far', iw', pl', ro', rs', str', tu', wa', ?_, rfl, rfl, hr, hl', hs, hp, Or.inr ⟨rfl, rfl, l1, m, E, D, rfl, rfl, a3, fun f hf => Or.inl (f2 f (by have := a3.1; omega)), Or.inl ⟨rfl, rfl, rfl⟩⟩⟩
          · rw [l1]
            unfold X9_rows
            simp only [i1, bnd_some, Sum.elim_inr, s1, if_neg n10, v1, f1, un5_mk, a1, un12_mk, rmap_some]
          · rw [l2]
            unfold X10_rows X10_rows_b18 X10_rows_b46
            simp only [if_neg n10, thr0, bnd_some, un2_mk, if_true, isSlant_eq, s1, v2, a2, un15_mk]
        · rw [← lo.2.2.2.2] at a1
          refine Or.inl ⟨-1, 0, 0, 0, 0, al', en', nu', so', sp', sq', sta', st', ta', kn, ?_, -1, 0, 0, 0, nI 60, src', alr', enr', far', iw', pl', ro', rs', str', tu', wa', ?_, rfl, rfl, hr, hl', hs, hp, Or.inl ⟨rfl, rfl, rfl, rfl, rfl, rfl⟩⟩
          · rw [l1]
            unfold X9_rows
            simp only [i1, bnd_some, Sum.elim_inr, s1, if_neg n10, v1, f1, un5_mk, a1, un12_mk, rmap_some]
          · rw [l2]
            unfold X10_rows X10_rows_b18 X10_rows_b46
            simp only [if_neg n10, thr0, bnd_some, un2_mk, if_true, isSlant_eq, s1, v2, a2, un15_mk]
      · refine bad ?_ ?_
        · unfold X9_rows
          simp only [i1, bnd_some, Sum.elim_inr, s1, if_neg n10, v1, Sum.elim_inl]
        · unfold X10_rows X10_rows_b18 X10_rows_b41 X10_rows_b46
          simp only [if_neg n10, thr0, thr1, bnd_some, un2_mk, if_true, isSlant_eq, s1, v2]
    · refine bad ?_ ?_
      · unfold X9_rows
        simp only [i1, bnd_some, Sum.elim_inr, s1, if_true]
      · unfold X10_rows X10_rows_b18 X10_rows_b41 X10_rows_b46
        simp only [if_neg n10, thr0, thr1, bnd_some, un2_mk, if_true, isSlant_eq, s1]
end OPS6
