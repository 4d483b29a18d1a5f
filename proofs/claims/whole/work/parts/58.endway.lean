/-- what is known when the waiting row is empty -/
def RF (wh : Ar) (f : Nat) (L : Nat → Nat) : Prop := L f = 0 ∧ (∀ t, L t ≤ 100000000) ∧
  (∀ t, t < 1200 → t ≠ f → L t < 100000000 → wh t = 1 ∧ ∃ o w, (o = f ∨ wh o = 1) ∧ adj o t w ∧ L o + w ≤ L t) ∧
  (∀ o, o < 1200 → (o = f ∨ wh o = 1) → L o < 100000000 → ∀ t w, adj o t w → wh t = 1 → t ≠ f → L t ≤ L o + w)
theorem reaches_ok {wh : Ar} {f : Nat} (hf : f < 1200) (src : Int32) (far iw wt : Ar) : ∃ (far' iw' wt' : Ar), X10_reaches src far iw wt wh (nI f) = some (nI f, far', iw', wt') ∧ ∃ L : Nat → Nat, (∀ t, t < 1200 → far' t = nI (L t)) ∧ RF wh f L := by
  obtain ⟨⟨far1, iw1⟩, a1, a2, a3⟩ := whileV_up (body := fun st => X10_reaches_L7 (nI f) st.1 st.2.1 st.2.2) 1200
    (fun k st => st.2.2 = nI k ∧ (∀ s, s < k → st.1 s = 100000000) ∧ ∀ s, s < k → st.2.1 s = 0) (fun r => (∀ s, s < 1200 → r.1 s = 100000000) ∧ ∀ s, s < 1200 → r.2 s = 0)
    (fun k st hk hs => by
      obtain ⟨far, iw, i⟩ := st
      obtain ⟨rfl, q1, q2⟩ := hs
      dsimp only at q1 q2
      left
      refine ⟨(upd far k 100000000, upd iw k 0, nI (k + 1)), ?_, rfl, fun s hs => ?_, fun s hs => ?_⟩
      · show X10_reaches_L7 (nI f) far iw (nI k) = _
        have au1 : au far (nI k) 100000000 = upd far k 100000000 := au_nI (by omega)
        have au2 : au iw (nI k) 0 = upd iw k 0 := au_nI (by omega)
        unfold X10_reaches_L7
        simp only [if_neg (show ¬ (1200 : Int32) ≤ nI k from nI_ge hk (by decide)), ck_t (ix_nI hk (show 1200 < 2 ^ 31 by decide)), au1, show vp_nar .boolean 0 = 0 from rfl, au2, bnd_some, bnd_none, rmap_some, nm_eq, Sum.elim_inl, Sum.elim_inr, un2_mk, un3_mk, un4_mk, un5_mk, un6_mk, un7_mk, un8_mk, un9_mk, un10_mk, un11_mk, un12_mk, nI_1]
      · show upd far k 100000000 s = _
        rw [upd_at]
        by_cases e : s = k
        · rw [if_pos e]
        · rw [if_neg e]; exact q1 s (by omega)
      · show upd iw k 0 s = _
        rw [upd_at]
        by_cases e : s = k
        · rw [if_pos e]
        · rw [if_neg e]; exact q2 s (by omega))
    (fun st hs => by
      obtain ⟨far, iw, i⟩ := st
      obtain ⟨rfl, q1, q2⟩ := hs
      refine ⟨(far, iw), ?_, q1, q2⟩
      show X10_reaches_L7 (nI f) far iw (nI 1200) = _
      unfold X10_reaches_L7
      rw [if_pos (show (1200 : Int32) ≤ nI 1200 from nI_le (a := 1200) (Nat.le_refl _) (by decide))]) 0 (far, iw, 0) (by omega) ⟨rfl, fun s hs => by omega, fun s hs => by omega⟩
  dsimp only at a2 a3
  have nf : ∀ t, t ≠ f → uN (fun _ => 100000000) f 0 t = 100000000 := fun t e => uN_n e
  have hL : ∀ t, t < 1200 → upd far1 f 0 t = nI (uN (fun _ => 100000000) f 0 t) := by
    intro t ht
    rw [upd_at]
    by_cases e : t = f
    · rw [if_pos e, e, uN_s]; rfl
    · rw [if_neg e, nf t e, a2 t ht]; rfl
  have hR : RI wh f (fun _ => False) (uN (fun _ => 100000000) f 0) iw1 (upd wt 0 (nI f)) (fun _ => f) 0 1 := by
    refine ⟨uN_s _ _ _, fun t => ?_, fun t ht e h => ?_, fun s hs e => Or.inl ⟨a3 s hs, fun j _ => Ne.symm e⟩, fun j hj => ⟨hf, Or.inl rfl, by rw [uN_s]; omega, ?_⟩, fun i j hi hj => by omega, fun o h1 h2 h3 => ?_, by omega⟩
    · by_cases e : t = f
      · rw [e, uN_s]; omega
      · rw [nf t e]; exact Nat.le_refl _
    · rw [nf t e] at h; omega
    · rw [upd_at, if_pos (by omega)]
    · by_cases e : o = f
      · exact Or.inr (Or.inl ⟨0, by omega, e.symm⟩)
      · rw [nf o e] at h3; omega
  obtain ⟨far', iw', wt', L', q', fst', w1, w2, w3⟩ := reach_loop hf _ (upd far1 f 0) iw1 (upd wt 0 (nI f)) 0 1 _ _ (Nat.le_refl _) hL hR
  refine ⟨far', iw', wt', ?_, L', w2, ?_⟩
  · have au1 : au far1 (nI f) 0 = upd far1 f 0 := au_nI (by omega)
    have au2 : au wt 0 (nI f) = upd wt 0 (nI f) := rfl
    have w1' : whileV (fun st => X10_reaches_L53 wh (nI f) st.1 st.2.1 st.2.2.1 st.2.2.2.1 st.2.2.2.2) (upd far1 f 0, iw1, upd wt 0 (nI f), 0, 1) = some (far', iw', wt') := w1
    unfold X10_reaches
    simp only [a1, bnd_some, bnd_none, rmap_some, nm_eq, Sum.elim_inl, Sum.elim_inr, un2_mk, un3_mk, un4_mk, un5_mk, un6_mk, un7_mk, un8_mk, un9_mk, un10_mk, un11_mk, un12_mk, ck_t (ix_nI hf (show 1200 < 2 ^ 31 by decide)), au1, ck_t (show ix 0 1200 = true by decide), au2, w1']
  · obtain ⟨i1, i2, i3, i4, i5, i6, i7, i8⟩ := w3
    refine ⟨i1, i2, i3, fun o h1 h2 h3 => ?_⟩
    rcases i7 o h1 h2 h3 with r | ⟨j, r, _⟩ | r
    · exact False.elim r
    · omega
    · exact r
theorem least_ok {wh far : Ar} {f t : Nat} {L : Nat → Nat} (hL : ∀ s, s < 1200 → far s = nI (L s)) (hb : ∀ s, L s ≤ 100000000) (hf : f < 1200) (ht : t < 1200) :
    ∃ v : Nat, X10_least (nI f) far wh (nI t) = some (nI v) ∧ v ≤ 100000000 ∧ (∀ o w, adj t o w → (o = f ∨ wh o = 1) → v ≤ L o + w) ∧ (v < 100000000 → ∃ o w, adj t o w ∧ (o = f ∨ wh o = 1) ∧ v = L o + w) := by
  obtain ⟨r, h1, v, rfl, g1, g2, g3⟩ := whileV_up (body := fun st => X10_least_L5 (nI f) far wh (nI t) st.1 st.2) 9
    (fun d st => st.2 = nI d ∧ ∃ v : Nat, st.1 = nI v ∧ v ≤ 100000000 ∧ (∀ e, e < d → ∀ o w, isNb t e o w → (o = f ∨ wh o = 1) → v ≤ L o + w) ∧ (v < 100000000 → ∃ o w, adj t o w ∧ (o = f ∨ wh o = 1) ∧ v = L o + w))
    (fun r => ∃ v : Nat, r = nI v ∧ v ≤ 100000000 ∧ (∀ e, e < 9 → ∀ o w, isNb t e o w → (o = f ∨ wh o = 1) → v ≤ L o + w) ∧ (v < 100000000 → ∃ o w, adj t o w ∧ (o = f ∨ wh o = 1) ∧ v = L o + w))
    (fun d st hd hs => by
      obtain ⟨x, i⟩ := st
      obtain ⟨rfl, v, rfl, g1, g2, g3⟩ := hs
      left
      have c9 : ¬ (9 : Int32) ≤ nI d := nI_ge hd (by decide)
      have fs := cXf t
      have skip : (∀ o w, isNb t d o w → (o = f ∨ wh o = 1) → v ≤ L o + w) → X10_least_L5 (nI f) far wh (nI t) (nI v) (nI d) = some (.inl (nI v, nI (d + 1))) → ∃ s' : Int32 × Int32, X10_least_L5 (nI f) far wh (nI t) (nI v) (nI d) = some (.inl s') ∧ s'.2 = nI (d + 1) ∧ ∃ v : Nat, s'.1 = nI v ∧ v ≤ 100000000 ∧ (∀ e, e < d + 1 → ∀ o w, isNb t e o w → (o = f ∨ wh o = 1) → v ≤ L o + w) ∧ (v < 100000000 → ∃ o w, adj t o w ∧ (o = f ∨ wh o = 1) ∧ v = L o + w) := by
        intro h1 h2
        refine ⟨_, h2, rfl, v, rfl, g1, fun e he o w hn ho => ?_, g3⟩
        by_cases c : e = d
        · rw [c] at hn; exact h1 o w hn ho
        · exact g2 e (by omega) o w hn ho
      by_cases d4 : d = 4
      · refine skip (fun o w hn => absurd d4 hn.1) ?_
        have e4 : nI d = 4 := (nI_e4 hd).mpr d4
        unfold X10_least_L5 X10_least_b5_119
        simp only [if_neg c9, bnd_some, bnd_none, rmap_some, nm_eq, Sum.elim_inl, Sum.elim_inr, un2_mk, un3_mk, un4_mk, un5_mk, un6_mk, un7_mk, un8_mk, un9_mk, un10_mk, un11_mk, un12_mk, if_pos e4, nI_1]
      have e4 : ¬ nI d = 4 := fun q => d4 ((nI_e4 hd).mp q)
      have ns := (isSq_iI (x := cX t + ((d % 3 : Nat) : Int) - 1) (y := cY t + ((d / 3 : Nat) : Int) - 1) (by omega) (by omega) (by omega) (by omega)).2
      by_cases c : inL (cX t + ((d % 3 : Nat) : Int) - 1) (cY t + ((d / 3 : Nat) : Int) - 1)
      · rw [if_pos c] at ns
        obtain ⟨q1, q2⟩ := sq_iI c
        obtain ⟨o, ho⟩ : ∃ o, o = (40 * (cY t + ((d / 3 : Nat) : Int) - 1) + (cX t + ((d % 3 : Nat) : Int) - 1)).toNat := ⟨_, rfl⟩
        rw [← ho] at q1 q2
        have aw : ag wh (nI o) = wh o := ag_nI (by omega)
        have agl : ag far (nI o) = nI (L o) := by rw [ag_nI (by omega), hL o q2]
        have bo := hb o
        -- what 83 does
        have b83 : ∃ v' : Nat, X10_least_b5_83 far (nI t) (nI v) (nI d) (nI o) = some (.inl (nI v', nI (d + 1))) ∧ v' ≤ v ∧ v' ≤ L o + (if d % 2 = 1 then 5 else 7) ∧ (v' = v ∨ v' = L o + (if d % 2 = 1 then 5 else 7)) := by
          by_cases od : d % 2 = 1
          · have o' : nI (d % 2) = 1 := (nI_e1 (by omega)).mpr od
            by_cases l : v ≤ L o + 5
            · refine ⟨v, ?_, by omega, by rw [if_pos od]; omega, Or.inl rfl⟩
              unfold X10_least_b5_83 X10_least_b5_103 X10_least_b5_118 X10_least_b5_119
              simp only [ck_t (ix_nI q2 (show 1200 < 2 ^ 31 by decide)), rem2 (show d < 2 ^ 31 by omega), if_pos o', agl, add5, bnd_some, bnd_none, rmap_some, nm_eq, Sum.elim_inl, Sum.elim_inr, un2_mk, un3_mk, un4_mk, un5_mk, un6_mk, un7_mk, un8_mk, un9_mk, un10_mk, un11_mk, un12_mk, if_pos (nI_le l (by omega)), nI_1]
            · refine ⟨L o + 5, ?_, by omega, by rw [if_pos od]; omega, Or.inr (by rw [if_pos od])⟩
              unfold X10_least_b5_83 X10_least_b5_103 X10_least_b5_118 X10_least_b5_119
              simp only [ck_t (ix_nI q2 (show 1200 < 2 ^ 31 by decide)), rem2 (show d < 2 ^ 31 by omega), if_pos o', agl, add5, bnd_some, bnd_none, rmap_some, nm_eq, Sum.elim_inl, Sum.elim_inr, un2_mk, un3_mk, un4_mk, un5_mk, un6_mk, un7_mk, un8_mk, un9_mk, un10_mk, un11_mk, un12_mk, if_neg (nI_ge (show L o + 5 < v by omega) (by omega)), nI_1]
          · have o' : ¬ nI (d % 2) = 1 := fun q => od ((nI_e1 (by omega)).mp q)
            by_cases l : v ≤ L o + 7
            · refine ⟨v, ?_, by omega, by rw [if_neg od]; omega, Or.inl rfl⟩
              unfold X10_least_b5_83 X10_least_b5_103 X10_least_b5_118 X10_least_b5_119
              simp only [ck_t (ix_nI q2 (show 1200 < 2 ^ 31 by decide)), rem2 (show d < 2 ^ 31 by omega), if_neg o', agl, add7, bnd_some, bnd_none, rmap_some, nm_eq, Sum.elim_inl, Sum.elim_inr, un2_mk, un3_mk, un4_mk, un5_mk, un6_mk, un7_mk, un8_mk, un9_mk, un10_mk, un11_mk, un12_mk, if_pos (nI_le l (by omega)), nI_1]
            · refine ⟨L o + 7, ?_, by omega, by rw [if_neg od]; omega, Or.inr (by rw [if_neg od])⟩
              unfold X10_least_b5_83 X10_least_b5_103 X10_least_b5_118 X10_least_b5_119
              simp only [ck_t (ix_nI q2 (show 1200 < 2 ^ 31 by decide)), rem2 (show d < 2 ^ 31 by omega), if_neg o', agl, add7, bnd_some, bnd_none, rmap_some, nm_eq, Sum.elim_inl, Sum.elim_inr, un2_mk, un3_mk, un4_mk, un5_mk, un6_mk, un7_mk, un8_mk, un9_mk, un10_mk, un11_mk, un12_mk, if_neg (nI_ge (show L o + 7 < v by omega) (by omega)), nI_1]
        have aj := nb_adj ht hd d4 c
        rw [← ho] at aj
        have take : (o = f ∨ wh o = 1) → X10_least_L5 (nI f) far wh (nI t) (nI v) (nI d) = X10_least_b5_83 far (nI t) (nI v) (nI d) (nI o) → ∃ s' : Int32 × Int32, X10_least_L5 (nI f) far wh (nI t) (nI v) (nI d) = some (.inl s') ∧ s'.2 = nI (d + 1) ∧ ∃ v : Nat, s'.1 = nI v ∧ v ≤ 100000000 ∧ (∀ e, e < d + 1 → ∀ o w, isNb t e o w → (o = f ∨ wh o = 1) → v ≤ L o + w) ∧ (v < 100000000 → ∃ o w, adj t o w ∧ (o = f ∨ wh o = 1) ∧ v = L o + w) := by
          intro h1 h2
          obtain ⟨v', p1, p2, p3, p4⟩ := b83
          refine ⟨_, h2.trans p1, rfl, v', rfl, by omega, fun e he o' w hn ho' => ?_, fun hv => ?_⟩
          · by_cases c : e = d
            · rw [c] at hn
              rw [hn.2.2.1, ← ho, hn.2.2.2]; exact p3
            · have := g2 e (by omega) o' w hn ho'; omega
          · rcases p4 with p4 | p4
            · rw [p4] at hv ⊢; exact g3 hv
            · exact ⟨o, _, aj, h1, p4⟩
        by_cases tf : o = f
        · refine take (Or.inl tf) ?_
          have e5 : nI o = nI f := by rw [tf]
          unfold X10_least_L5
          simp only [if_neg c9, bnd_some, bnd_none, rmap_some, nm_eq, Sum.elim_inl, Sum.elim_inr, un2_mk, un3_mk, un4_mk, un5_mk, un6_mk, un7_mk, un8_mk, un9_mk, un10_mk, un11_mk, un12_mk, if_neg e4, nb_x (show t < 2 ^ 31 by omega) (show d < 2 ^ 31 by omega), nb_y (show t < 2 ^ 31 by omega) (show d < 2 ^ 31 by omega), ns, q1, if_true, if_pos e5]
        have e5 : ¬ nI o = nI f := fun q => tf ((nI_eq (by omega) (by omega)).mp q)
        by_cases wt1 : wh o = 1
        · refine take (Or.inr wt1) ?_
          unfold X10_least_L5
          simp only [if_neg c9, bnd_some, bnd_none, rmap_some, nm_eq, Sum.elim_inl, Sum.elim_inr, un2_mk, un3_mk, un4_mk, un5_mk, un6_mk, un7_mk, un8_mk, un9_mk, un10_mk, un11_mk, un12_mk, if_neg e4, nb_x (show t < 2 ^ 31 by omega) (show d < 2 ^ 31 by omega), nb_y (show t < 2 ^ 31 by omega) (show d < 2 ^ 31 by omega), ns, q1, if_true, if_neg e5, ck_t (ix_nI q2 (show 1200 < 2 ^ 31 by decide)), aw, wt1]
        · refine skip (fun o' w hn ho' => ?_) ?_
          · rw [hn.2.2.1, ← ho] at ho'
            rcases ho' with r | r
            · exact absurd r tf
            · exact absurd r wt1
          · unfold X10_least_L5 X10_least_b5_119
            simp only [if_neg c9, bnd_some, bnd_none, rmap_some, nm_eq, Sum.elim_inl, Sum.elim_inr, un2_mk, un3_mk, un4_mk, un5_mk, un6_mk, un7_mk, un8_mk, un9_mk, un10_mk, un11_mk, un12_mk, if_neg e4, nb_x (show t < 2 ^ 31 by omega) (show d < 2 ^ 31 by omega), nb_y (show t < 2 ^ 31 by omega) (show d < 2 ^ 31 by omega), ns, q1, if_true, if_neg e5, ck_t (ix_nI q2 (show 1200 < 2 ^ 31 by decide)), aw, if_neg wt1, nI_1]
      · rw [if_neg c] at ns
        refine skip (fun o w hn => absurd hn.2.1 c) ?_
        unfold X10_least_L5 X10_least_b5_119
        simp only [if_neg c9, bnd_some, bnd_none, rmap_some, nm_eq, Sum.elim_inl, Sum.elim_inr, un2_mk, un3_mk, un4_mk, un5_mk, un6_mk, un7_mk, un8_mk, un9_mk, un10_mk, un11_mk, un12_mk, if_neg e4, nb_x (show t < 2 ^ 31 by omega) (show d < 2 ^ 31 by omega), nb_y (show t < 2 ^ 31 by omega) (show d < 2 ^ 31 by omega), ns, if_neg (show ¬ (1 : Int32) = 0 by decide), nI_1])
    (fun st hs => by
      obtain ⟨x, i⟩ := st
      obtain ⟨rfl, v, rfl, g1, g2, g3⟩ := hs
      refine ⟨nI v, ?_, v, rfl, g1, g2, g3⟩
      show X10_least_L5 (nI f) far wh (nI t) (nI v) (nI 9) = _
      unfold X10_least_L5
      rw [if_pos (show (9 : Int32) ≤ nI 9 from nI_le (a := 9) (Nat.le_refl _) (by decide))]) 0 (nI 100000000, nI 0) (by omega) ⟨rfl, 100000000, rfl, Nat.le_refl _, fun e he => by omega, fun h => by omega⟩
  refine ⟨v, ?_, g1, fun o w ha ho => ?_, g3⟩
  · unfold X10_least
    have h1' : whileV (fun st => X10_least_L5 (nI f) far wh (nI t) st.1 st.2) (100000000, 0) = some (nI v) := h1
    rw [h1']
    rfl
  · obtain ⟨d, d1, d2, d3, d4, d5⟩ := adj_nb ha
    exact g2 d d1 o w ⟨d2, d3, d4, d5⟩ ho
theorem endWay_ok {wh far : Ar} {f t v : Nat} {L : Nat → Nat} (hL : ∀ s, s < 1200 → far s = nI (L s)) (h : RF wh f L) (hf : f < 1200) (ht : t < 1200) (hd : Dst wh f t v) : X10_endWay (nI f) far wh (nI t) = some (if v = 1000000 then -1 else nI v) := by
  obtain ⟨i1, i2, i3, i4⟩ := h
  by_cases tf : t = f
  · have v0 : v = 0 := by
      rcases hd with ⟨_, b⟩ | ⟨a, _⟩ | ⟨a, _⟩
      · exact b
      · exact absurd tf a
      · exact absurd tf a
    unfold X10_endWay
    rw [tf, if_pos rfl, v0, if_neg (by omega)]
    rfl
  have up : ∀ m o n, wh o = 1 → wk wh f m o n → n < 100000000 → L o ≤ n := by
    intro m
    induction m with
    | zero =>
      intro o n ho hw hn
      by_cases e : o = f
      · rw [e, i1]; omega
      · have := i4 f hf (Or.inl rfl) (by omega) o n hw ho e
        omega
    | succ m ih =>
      intro o n ho ⟨p, w, n', w1, w2, w3, w4⟩ hn
      by_cases e : o = f
      · rw [e, i1]; omega
      · have I := ih p n' w2 w1 (by omega)
        have := i4 p w3.1 (Or.inr w2) (by omega) o w w3 ho e
        omega
  have wit : ∀ v o, L o = v → o < 1200 → o ≠ f → L o < 100000000 → ∃ m n, wk wh f m o n ∧ n ≤ L o := by
    intro v
    induction v using Nat.strongRecOn with
    | _ v ih =>
      intro t e ht hf2 hl
      obtain ⟨_, o, w, o1, o2, o3⟩ := i3 t ht hf2 hl
      have := adj_w o2
      by_cases q : o = f
      · subst q
        exact ⟨0, w, o2, by omega⟩
      · have o1' : wh o = 1 := by rcases o1 with r | r; exact absurd r q; exact r
        obtain ⟨m, n, h3, h4⟩ := ih (L o) (by omega) o rfl o2.1 q (by omega)
        exact ⟨m + 1, n + w, ⟨o, w, n, h3, o1', o2, rfl⟩, by omega⟩
  obtain ⟨u, l1, l2, l3, l4⟩ := least_ok (wh := wh) hL i2 hf ht
  have lw : u < 100000000 → ∃ m n, wk wh f m t n ∧ n ≤ u := by
    intro hu
    obtain ⟨o, w, a1, a2, a3⟩ := l4 hu
    by_cases q : o = f
    · subst q
      exact ⟨0, w, adj_sym a1, by omega⟩
    · have o1' : wh o = 1 := by rcases a2 with r | r; exact absurd r q; exact r
      obtain ⟨m, n, h3, h4⟩ := wit _ o rfl a1.2.1 q (by omega)
      exact ⟨m + 1, n + w, ⟨o, w, n, h3, o1', adj_sym a1, rfl⟩, by omega⟩
  have ne : ¬ nI t = nI f := fun q => tf ((nI_eq (by omega) (by omega)).mp q)
  unfold X10_endWay
  rw [if_neg ne, l1, bnd_some]
  rcases hd with ⟨a, _⟩ | ⟨_, b, ⟨m, c⟩, d⟩ | ⟨_, b, c⟩
  · exact absurd a tf
  · have hu : u ≤ v := by
      cases m with
      | zero =>
        have := l3 f v (adj_sym c) (Or.inl rfl)
        omega
      | succ m =>
        obtain ⟨o, w, n', w1, w2, w3, w4⟩ := c
        have := up m o n' w2 w1 (by omega)
        have := l3 o w (adj_sym w3) (Or.inr w2)
        omega
    obtain ⟨m', n, h1, h2⟩ := lw (by omega)
    have := d m' n h1
    have e : u = v := by omega
    rw [if_pos (show nI u < 100000000 from nI_lt (b := 100000000) (by omega) (by decide)), if_neg (by omega), e]
  · have : ¬ u < 100000000 := fun q => by
      obtain ⟨m', n, h1, h2⟩ := lw q
      exact c m' n h1
    rw [if_neg (show ¬ nI u < 100000000 from nI_nlt (b := 100000000) (by omega) (by omega)), if_pos b]
theorem wk_congr {kd wh : Ar} (h : ∀ s, s < 1200 → kd s = wh s) {f : Nat} : ∀ m t n, wk kd f m t n ↔ wk wh f m t n := by
  intro m
  induction m with
  | zero => intro t n; exact Iff.rfl
  | succ m ih =>
    intro t n
    constructor
    · intro ⟨o, w, n', w1, w2, w3, w4⟩
      exact ⟨o, w, n', (ih o n').mp w1, by rw [← h o w3.1]; exact w2, w3, w4⟩
    · intro ⟨o, w, n', w1, w2, w3, w4⟩
      exact ⟨o, w, n', (ih o n').mpr w1, by rw [h o w3.1]; exact w2, w3, w4⟩
theorem Dst_congr {kd wh : Ar} (h : ∀ s, s < 1200 → kd s = wh s) {f t v : Nat} (hd : Dst kd f t v) : Dst wh f t v := by
  rcases hd with a | ⟨a, b, ⟨m, c⟩, d⟩ | ⟨a, b, c⟩
  · exact Or.inl a
  · exact Or.inr (Or.inl ⟨a, b, ⟨m, (wk_congr h m t v).mp c⟩, fun m n hw => d m n ((wk_congr h m t n).mpr hw)⟩)
  · exact Or.inr (Or.inr ⟨a, b, fun m n hw => c m n ((wk_congr h m t n).mpr hw)⟩)
