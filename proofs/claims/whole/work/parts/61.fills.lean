/-- the pile -/
def PQ (wh num pl : Ar) (PL : Nat → Nat) (D : Nat → Prop) (top n : Nat) (m : Int32) : Prop := (∀ j, j < top → pl j = nI (PL j) ∧ PL j < 1200 ∧ num (PL j) = m ∧ wh (PL j) = 2) ∧ (∀ t, t < 1200 → num t = m → D t ∨ ∃ j, j < top ∧ PL j = t) ∧ n + top = cnt (fun t => decide (num t = m)) 1200
theorem PQ_add {wh num pl : Ar} {PL : Nat → Nat} {D : Nat → Prop} {top n t : Nat} {m : Int32} (h : PQ wh num pl PL D top n m) (ht : t < 1200) (hk : wh t = 2) (hn : ¬ num t = m) : top < 1200 ∧ PQ wh (upd num t m) (upd pl top (nI t)) (uN PL top t) D (top + 1) n m := by
  obtain ⟨h1, h2, h3⟩ := h
  have c := cnt_new ht hn
  have c2 := cnt_le (fun s => decide (upd num t m s = m)) 1200
  refine ⟨by omega, fun i hi => ?_, fun s hs hm => ?_, by omega⟩
  · rw [upd_at, upd_at]
    by_cases e : i = top
    · rw [if_pos e, e, uN_s, if_pos rfl]
      exact ⟨rfl, ht, rfl, hk⟩
    · rw [if_neg e, uN_n e]
      have := h1 i (by omega)
      rw [if_neg (fun q => hn (by rw [← q]; exact this.2.2.1))]
      exact this
  · rw [upd_at] at hm
    by_cases e : s = t
    · exact Or.inr ⟨top, by omega, by rw [uN_s, e]⟩
    · rw [if_neg e] at hm
      rcases h2 s hs hm with q | ⟨i, i1, i2⟩
      · exact Or.inl q
      · exact Or.inr ⟨i, by omega, by rw [uN_n (by omega)]; exact i2⟩
theorem fills9 {wh st num0 : Ar} {f : Nat} {m : Int32} (hm : ∀ t, t < 1200 → ¬ num0 t = m) (hm1 : ¬ m = -1) {o : Nat} (ho : o < 1200) (hko : wh o = 2) {num pl : Ar} {PL : Nat → Nat} {D : Nat → Prop} {top n : Nat} {c4 : Int32} (hv : num o = m) (h1 : FV wh st num0 num f m) (h2 : PQ wh num pl PL D top n m) :
    ∃ (num' pl' : Ar) (PL' : Nat → Nat) (top' : Nat), whileV (fun s => X10_fills_L40 st wh m c4 (nI o) s.1 s.2.1 s.2.2.1 s.2.2.2) (pl, num, nI top, 0) = some (pl', num', nI top') ∧ FV wh st num0 num' f m ∧ PQ wh num' pl' PL' D top' n m ∧ (∀ t, ¬ num t = -1 → num' t = num t) ∧ ∀ t, lnk wh st o t → ¬ num' t = -1 := by
  obtain ⟨⟨pl', num', x⟩, w1, PL', top', e1, g1, g2, g5, g6⟩ := whileV_up (body := fun s => X10_fills_L40 st wh m c4 (nI o) s.1 s.2.1 s.2.2.1 s.2.2.2) 9
    (fun k s => s.2.2.2 = nI k ∧ ∃ (PL' : Nat → Nat) (top' : Nat), s.2.2.1 = nI top' ∧ FV wh st num0 s.2.1 f m ∧ PQ wh s.2.1 s.1 PL' D top' n m ∧ (∀ t, ¬ num t = -1 → s.2.1 t = num t) ∧ ∀ j, j < k → ∀ t w, isNb o j t w → lnk wh st o t → ¬ s.2.1 t = -1)
    (fun r => ∃ (PL' : Nat → Nat) (top' : Nat), r.2.2 = nI top' ∧ FV wh st num0 r.2.1 f m ∧ PQ wh r.2.1 r.1 PL' D top' n m ∧ (∀ t, ¬ num t = -1 → r.2.1 t = num t) ∧ ∀ j, j < 9 → ∀ t w, isNb o j t w → lnk wh st o t → ¬ r.2.1 t = -1)
    (fun d s hd hs => by
      obtain ⟨pl1, num1, x, i⟩ := s
      obtain ⟨rfl, PL', top', rfl, g1, g2, g5, g6⟩ := hs
      dsimp only at g1 g2 g5 g6
      left
      have c9 : ¬ (9 : Int32) ≤ nI d := nI_ge hd (by decide)
      have fs := cXf o
      have ico := ix_nI ho (show 1200 < 2 ^ 31 by decide)
      have vo : num1 o = m := by rw [g5 o (by rw [hv]; exact hm1)]; exact hv
      have skip : (∀ t w, isNb o d t w → lnk wh st o t → ¬ num1 t = -1) → X10_fills_L40 st wh m c4 (nI o) pl1 num1 (nI top') (nI d) = some (.inl (pl1, num1, nI top', nI (d + 1))) → ∃ s' : Ar × Ar × Int32 × Int32, X10_fills_L40 st wh m c4 (nI o) pl1 num1 (nI top') (nI d) = some (.inl s') ∧ s'.2.2.2 = nI (d + 1) ∧ ∃ (PL' : Nat → Nat) (top' : Nat), s'.2.2.1 = nI top' ∧ FV wh st num0 s'.2.1 f m ∧ PQ wh s'.2.1 s'.1 PL' D top' n m ∧ (∀ t, ¬ num t = -1 → s'.2.1 t = num t) ∧ ∀ j, j < d + 1 → ∀ t w, isNb o j t w → lnk wh st o t → ¬ s'.2.1 t = -1 := by
        intro y1 y2
        refine ⟨_, y2, rfl, PL', top', rfl, g1, g2, g5, fun j hj t w => ?_⟩
        by_cases e : j = d
        · rw [e]; exact y1 t w
        · exact g6 j (by omega) t w
      have ns := (isSq_iI (x := cX o + ((d % 3 : Nat) : Int) - 1) (y := cY o + ((d / 3 : Nat) : Int) - 1) (by omega) (by omega) (by omega) (by omega)).2
      by_cases c : inL (cX o + ((d % 3 : Nat) : Int) - 1) (cY o + ((d / 3 : Nat) : Int) - 1)
      · rw [if_pos c] at ns
        obtain ⟨q1, q2⟩ := sq_iI c
        obtain ⟨t, ht⟩ : ∃ t, t = (40 * (cY o + ((d / 3 : Nat) : Int) - 1) + (cX o + ((d % 3 : Nat) : Int) - 1)).toNat := ⟨_, rfl⟩
        rw [← ht] at q1 q2
        have agk : ag wh (nI t) = wh t := ag_nI (by omega)
        have agm : ag num1 (nI t) = num1 t := ag_nI (by omega)
        have agt : ag st (nI t) = st t := ag_nI (by omega)
        have ago : ag st (nI o) = st o := ag_nI (by omega)
        have ict := ix_nI q2 (show 1200 < 2 ^ 31 by decide)
        by_cases k2 : wh t = 2
        · by_cases nt : num1 t = -1
          · by_cases ss : st t = st o
            · have d4 : d ≠ 4 := by
                intro q
                have e : t = o := by rw [ht, q]; omega
                rw [e, vo] at nt
                exact hm1 nt
              have lk : lnk wh st o t := ⟨⟨_, ht ▸ nb_adj ho hd d4 c⟩, hko, k2, ss.symm⟩
              have ne : ¬ num1 t = m := by rw [nt]; exact Ne.symm hm1
              obtain ⟨p1, p2⟩ := PQ_add g2 q2 k2 ne
              have au1 : ∀ x, au num1 (nI t) x = upd num1 t x := fun x => au_nI (by omega)
              have au2 : ∀ x, au pl1 (nI top') x = upd pl1 top' x := fun x => au_nI (by omega)
              refine ⟨(upd pl1 top' (nI t), upd num1 t m, nI (top' + 1), nI (d + 1)), ?_, rfl, uN PL' top' t, top' + 1, rfl, FV_add g1 hm ho vo lk nt hm1, p2, fun s hs => ?_, fun j hj t' w v1 v2 => ?_⟩
              · show X10_fills_L40 st wh m c4 (nI o) pl1 num1 (nI top') (nI d) = _
                unfold X10_fills_L40 X10_fills_b40_159
                simp only [if_neg c9, nb_x (show o < 2 ^ 31 by omega) (show d < 2 ^ 31 by omega), nb_y (show o < 2 ^ 31 by omega) (show d < 2 ^ 31 by omega), ns, q1, ck_t ict, agk, k2, agm, nt, agt, ago, ss, if_true, ck_t ico, au1, au2, ck_t (ix_nI p1 (show 1200 < 2 ^ 31 by decide)), bnd_some, bnd_none, rmap_some, nm_eq, Sum.elim_inl, Sum.elim_inr, un2_mk, un3_mk, un4_mk, un5_mk, un6_mk, un7_mk, un8_mk, un9_mk, un10_mk, un11_mk, un12_mk, nI_1]
              · show upd num1 t m s = _
                rw [upd_at, if_neg (fun q => by rw [q, ← g5 t (q ▸ hs), nt] at hs; exact hs rfl)]
                exact g5 s hs
              · show ¬ upd num1 t m t' = -1
                rw [upd_at]
                by_cases e : t' = t
                · rw [if_pos e]; exact hm1
                · rw [if_neg e]
                  by_cases e2 : j = d
                  · rw [e2] at v1; exact absurd (v1.2.2.1.trans ht.symm) e
                  · exact g6 j (by omega) t' w v1 v2
            · refine skip (fun t' w v1 v2 => ?_) ?_
              · rw [v1.2.2.1, ← ht] at v2
                exact absurd v2.2.2.2.symm ss
              · unfold X10_fills_L40 X10_fills_b40_159
                simp only [if_neg c9, nb_x (show o < 2 ^ 31 by omega) (show d < 2 ^ 31 by omega), nb_y (show o < 2 ^ 31 by omega) (show d < 2 ^ 31 by omega), ns, q1, ck_t ict, agk, k2, agm, nt, agt, ago, if_neg ss, if_true, ck_t ico, bnd_some, bnd_none, rmap_some, nm_eq, Sum.elim_inl, Sum.elim_inr, un2_mk, un3_mk, un4_mk, un5_mk, un6_mk, un7_mk, un8_mk, un9_mk, un10_mk, un11_mk, un12_mk, nI_1]
          · refine skip (fun t' w v1 v2 => ?_) ?_
            · rw [v1.2.2.1, ← ht]; exact nt
            · unfold X10_fills_L40 X10_fills_b40_159
              simp only [if_neg c9, nb_x (show o < 2 ^ 31 by omega) (show d < 2 ^ 31 by omega), nb_y (show o < 2 ^ 31 by omega) (show d < 2 ^ 31 by omega), ns, q1, ck_t ict, agk, k2, agm, if_neg nt, if_true, bnd_some, bnd_none, rmap_some, nm_eq, Sum.elim_inl, Sum.elim_inr, un2_mk, un3_mk, un4_mk, un5_mk, un6_mk, un7_mk, un8_mk, un9_mk, un10_mk, un11_mk, un12_mk, nI_1]
        · refine skip (fun t' w v1 v2 => ?_) ?_
          · rw [v1.2.2.1, ← ht] at v2
            exact absurd v2.2.2.1 k2
          · unfold X10_fills_L40 X10_fills_b40_159
            simp only [if_neg c9, nb_x (show o < 2 ^ 31 by omega) (show d < 2 ^ 31 by omega), nb_y (show o < 2 ^ 31 by omega) (show d < 2 ^ 31 by omega), ns, q1, ck_t ict, agk, if_neg k2, if_true, bnd_some, bnd_none, rmap_some, nm_eq, Sum.elim_inl, Sum.elim_inr, un2_mk, un3_mk, un4_mk, un5_mk, un6_mk, un7_mk, un8_mk, un9_mk, un10_mk, un11_mk, un12_mk, nI_1]
      · rw [if_neg c] at ns
        refine skip (fun t' w v1 => absurd v1.2.1 c) ?_
        unfold X10_fills_L40 X10_fills_b40_159
        simp only [if_neg c9, nb_x (show o < 2 ^ 31 by omega) (show d < 2 ^ 31 by omega), nb_y (show o < 2 ^ 31 by omega) (show d < 2 ^ 31 by omega), ns, if_neg (show ¬ (1 : Int32) = 0 by decide), bnd_some, bnd_none, rmap_some, nm_eq, Sum.elim_inl, Sum.elim_inr, un2_mk, un3_mk, un4_mk, un5_mk, un6_mk, un7_mk, un8_mk, un9_mk, un10_mk, un11_mk, un12_mk, nI_1])
    (fun s hs => by
      obtain ⟨pl1, num1, x, i⟩ := s
      obtain ⟨rfl, PL', top', rfl, g⟩ := hs
      refine ⟨(pl1, num1, nI top'), ?_, PL', top', rfl, g⟩
      show X10_fills_L40 st wh m c4 (nI o) pl1 num1 (nI top') (nI 9) = _
      unfold X10_fills_L40
      rw [if_pos (show (9 : Int32) ≤ nI 9 from nI_le (a := 9) (Nat.le_refl _) (by decide))]) 0 (pl, num, nI top, 0) (by omega) ⟨rfl, PL, top, rfl, h1, h2, fun _ _ => rfl, fun j hj => by omega⟩
  have e1' : x = nI top' := e1
  subst e1'
  refine ⟨num', pl', PL', top', w1, g1, g2, g5, fun t ht => ?_⟩
  have ht' := ht
  obtain ⟨⟨w, a⟩, _⟩ := ht'
  obtain ⟨d, d1, d2, d3, d4, d5⟩ := adj_nb a
  exact g6 d d1 t w ⟨d2, d3, d4, d5⟩ ht
theorem fills_ok {wh st num0 : Ar} {f : Nat} {m : Int32} (hm : ∀ t, t < 1200 → ¬ num0 t = m) (hm1 : ¬ m = -1) (hf : f < 1200) (hkf : wh f = 2) (h0 : num0 f = -1) (hc : FC wh st num0) (pl : Ar) :
    ∃ num' pl', X10_fills pl num0 st wh (nI f) m = some (nI (cnt (fun t => decide (num' t = m)) 1200), pl', num') ∧ FP wh st num0 num' f m := by
  have V0 : FV wh st num0 (upd num0 f m) f m := by
    refine ⟨fun t ht => ?_, by rw [upd_at, if_pos rfl]⟩
    rw [upd_at]
    by_cases e : t = f
    · rw [if_pos e, e]; exact Or.inr ⟨rfl, h0, 0, rfl⟩
    · rw [if_neg e]; exact Or.inl rfl
  have Q0 : PQ wh (upd num0 f m) (upd pl 0 (nI f)) (fun _ => f) (fun _ => False) 1 0 m := by
    refine ⟨fun i hi => ?_, fun t ht hv => ?_, ?_⟩
    · have e : i = 0 := by omega
      rw [e, upd_at, if_pos rfl, upd_at, if_pos rfl]
      exact ⟨rfl, hf, rfl, hkf⟩
    · rw [upd_at] at hv
      by_cases e : t = f
      · exact Or.inr ⟨0, by omega, e.symm⟩
      · rw [if_neg e] at hv; exact absurd hv (hm t ht)
    · rw [cnt_new hf (hm f hf)]
      have : cnt (fun s => decide (num0 s = m)) 1200 = 0 := by
        rcases Nat.eq_zero_or_pos (cnt (fun s => decide (num0 s = m)) 1200) with q | q
        · exact q
        · obtain ⟨k, k1, k2⟩ := cnt_ex q
          exact absurd (of_decide_eq_true k2) (hm k k1)
      omega
  have fin : ∀ (num pl : Ar) (PL : Nat → Nat) (D : Nat → Prop) (n : Nat), FV wh st num0 num f m → PQ wh num pl PL D 0 n m → (∀ o, D o → ∀ t, lnk wh st o t → ¬ num t = -1) → FP wh st num0 num f m := by
    intro num pl PL D n g1 g2 g3
    refine FV_FP g1 hm hc hf hkf (fun o t ho hv hl => ?_)
    rcases g2.2.1 o ho hv with q | ⟨j, q, _⟩
    · exact g3 o q t hl
    · omega
  obtain ⟨⟨pl', num', x⟩, w1, w2, w3⟩ := whileV_up (body := fun s => X10_fills_L19 st wh m s.1 s.2.1 s.2.2.1 s.2.2.2) 1200
    (fun n s => s.2.2.2 = nI n ∧ ∃ (PL : Nat → Nat) (D : Nat → Prop) (top : Nat), s.2.2.1 = nI top ∧ FV wh st num0 s.2.1 f m ∧ PQ wh s.2.1 s.1 PL D top n m ∧ ∀ o, D o → ∀ t, lnk wh st o t → ¬ s.2.1 t = -1)
    (fun r => r.2.2 = nI (cnt (fun t => decide (r.2.1 t = m)) 1200) ∧ FP wh st num0 r.2.1 f m)
    (fun n s hn hs => by
      obtain ⟨pl, num, x, i⟩ := s
      obtain ⟨rfl, PL, D, top, rfl, g1, g2, g3⟩ := hs
      dsimp only at g1 g2 g3
      have tn := g2.2.2
      have cl := cnt_le (fun t => decide (num t = m)) 1200
      cases top with
      | zero =>
        right
        refine ⟨(pl, num, nI n), ?_, ?_, fin num pl PL D n g1 g2 g3⟩
        · show X10_fills_L19 st wh m pl num (nI 0) (nI n) = _
          unfold X10_fills_L19
          rw [if_pos (show nI 0 ≤ 0 by decide)]
        · show nI n = nI (cnt (fun t => decide (num t = m)) 1200)
          exact congrArg nI (by omega)
      | succ top =>
        left
        obtain ⟨q1, q2, q3, q4⟩ := g2.1 top (by omega)
        have g2' : PQ wh num pl PL (fun t => D t ∨ t = PL top) top (n + 1) m := by
          refine ⟨fun j hj => g2.1 j (by omega), fun t ht hv => ?_, by omega⟩
          rcases g2.2.1 t ht hv with q | ⟨j, j1, j2⟩
          · exact Or.inl (Or.inl q)
          · by_cases e : j = top
            · exact Or.inl (Or.inr (by rw [← j2, e]))
            · exact Or.inr ⟨j, by omega, j2⟩
        obtain ⟨num2, pl2, PL2, top2, y1, y2, y3, y4, y5⟩ := fills9 (c4 := nI (n + 1)) hm hm1 q2 q4 q3 g1 g2'
        refine ⟨(pl2, num2, nI top2, nI (n + 1)), ?_, rfl, PL2, _, top2, rfl, y2, y3, fun o ho t hl => ?_⟩
        · show X10_fills_L19 st wh m pl num (nI (top + 1)) (nI n) = _
          have ag1 : ag pl (nI top) = nI (PL top) := by rw [ag_nI (by omega), q1]
          unfold X10_fills_L19
          simp only [if_neg (nI_nle (show 0 < top + 1 by omega) (show top + 1 < 2 ^ 31 by omega)), pk_m1, ck_t (ix_nI (show top < 1200 by omega) (show 1200 < 2 ^ 31 by decide)), ag1, bnd_some, bnd_none, rmap_some, nm_eq, Sum.elim_inl, Sum.elim_inr, un2_mk, un3_mk, un4_mk, un5_mk, un6_mk, un7_mk, un8_mk, un9_mk, un10_mk, un11_mk, un12_mk, nI_1, y1]
        · rcases ho with ho | ho
          · have := g3 o ho t hl
            show ¬ num2 t = -1
            rw [y4 t this]; exact this
          · rw [ho] at hl; exact y5 t hl)
    (fun s hs => by
      obtain ⟨pl, num, x, i⟩ := s
      obtain ⟨rfl, PL, D, top, rfl, g1, g2, g3⟩ := hs
      dsimp only at g1 g2 g3
      have tn := g2.2.2
      have cl := cnt_le (fun t => decide (num t = m)) 1200
      have e : top = 0 := by omega
      subst e
      refine ⟨(pl, num, nI 1200), ?_, ?_, fin num pl PL D 1200 g1 g2 g3⟩
      · show X10_fills_L19 st wh m pl num (nI 0) (nI 1200) = _
        unfold X10_fills_L19
        rw [if_pos (show nI 0 ≤ 0 by decide)]
      · show nI 1200 = nI (cnt (fun t => decide (num t = m)) 1200)
        exact congrArg nI (by omega)) 0 (upd pl 0 (nI f), upd num0 f m, nI 1, nI 0) (by omega) ⟨rfl, _, _, 1, rfl, V0, Q0, fun o ho => False.elim ho⟩
  refine ⟨num', pl', ?_, w3⟩
  have au1 : ∀ x, au num0 (nI f) x = upd num0 f x := fun x => au_nI (by omega)
  have au2 : au pl 0 (nI f) = upd pl 0 (nI f) := rfl
  have w2' : x = _ := w2
  have w1' : whileV (fun s => X10_fills_L19 st wh m s.1 s.2.1 s.2.2.1 s.2.2.2) (upd pl 0 (nI f), upd num0 f m, 1, 0) = some (pl', num', x) := w1
  unfold X10_fills
  simp only [ck_t (ix_nI hf (show 1200 < 2 ^ 31 by decide)), au1, ck_t (show ix 0 1200 = true by decide), au2, w1', w2', bnd_some, bnd_none, rmap_some, nm_eq, Sum.elim_inl, Sum.elim_inr, un2_mk, un3_mk, un4_mk, un5_mk, un6_mk, un7_mk, un8_mk, un9_mk, un10_mk, un11_mk, un12_mk]
