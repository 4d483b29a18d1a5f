def isNb (s d t w : Nat) : Prop := d ≠ 4 ∧ inL (cX s + ((d % 3 : Nat) : Int) - 1) (cY s + ((d / 3 : Nat) : Int) - 1) ∧ t = (40 * (cY s + ((d / 3 : Nat) : Int) - 1) + (cX s + ((d % 3 : Nat) : Int) - 1)).toNat ∧ w = if d % 2 = 1 then 5 else 7
theorem nb_x {s d : Nat} (hs : s < 2 ^ 31) (hd : d < 2 ^ 31) : (nI s - nI s / 40 * 40) + (nI d - nI d / 3 * 3) - 1 = iI (cX s + ((d % 3 : Nat) : Int) - 1) := by
  rw [rem40 hs, show nI d - nI d / 3 * 3 = nI (d % 3) from pk_rem (d := 3) hd (by decide) (by decide), iI_1, ← iI_nat, ← iI_nat, iI_add, iI_sub]
  rfl
theorem nb_y {s d : Nat} (hs : s < 2 ^ 31) (hd : d < 2 ^ 31) : (nI s / 40 + nI d / 3) - 1 = iI (cY s + ((d / 3 : Nat) : Int) - 1) := by
  rw [div40 hs, show nI d / 3 = nI (d / 3) from pk_div (d := 3) hd (by decide) (by decide), iI_1, ← iI_nat, ← iI_nat, iI_add, iI_sub]
  rfl
theorem rem2 {d : Nat} (hd : d < 2 ^ 31) : nI d - nI d / 2 * 2 = nI (d % 2) := pk_rem (d := 2) hd (by decide) (by decide)
theorem nI_e4 {d : Nat} (hd : d < 9) : nI d = 4 ↔ d = 4 := nI_eq (b := 4) (by omega) (by decide)
theorem nI_e1 {d : Nat} (hd : d < 9) : nI d = 1 ↔ d = 1 := nI_eq (b := 1) (by omega) (by decide)
theorem reachL_ok {wh far iw wt : Ar} {f fst s d many : Nat} {L : Nat → Nat} (hL : ∀ t, t < 1200 → far t = nI (L t)) (hb : ∀ t, L t ≤ 100000000) (hf : f < 1200) (hs : s < 1200) (hd : d < 9) (hm : many ≤ 1200) (hfst : fst < 1200) :
    ((∀ t w, isNb s d t w → wh t = 1 → t ≠ f → L t ≤ L s + w) ∧ X10_reaches_L87 wh (nI f) (nI fst) (nI s) far iw wt (nI many) (nI d) = some (.inl (far, iw, wt, nI many, nI (d + 1)))) ∨
    ∃ t w, isNb s d t w ∧ wh t = 1 ∧ t ≠ f ∧ L s + w < L t ∧
      (¬ iw t = 0 → X10_reaches_L87 wh (nI f) (nI fst) (nI s) far iw wt (nI many) (nI d) = some (.inl (upd far t (nI (L s + w)), iw, wt, nI many, nI (d + 1)))) ∧
      (iw t = 0 → X10_reaches_L87 wh (nI f) (nI fst) (nI s) far iw wt (nI many) (nI d) = some (.inl (upd far t (nI (L s + w)), upd iw t 1, upd wt ((fst + many) % 1200) (nI t), nI (many + 1), nI (d + 1)))) := by
  have c9 : ¬ (9 : Int32) ≤ nI d := nI_ge hd (by decide)
  have fs := cXf s
  by_cases d4 : d = 4
  · left
    refine ⟨fun t w hn => absurd d4 hn.1, ?_⟩
    have e4 : nI d = 4 := (nI_e4 hd).mpr d4
    unfold X10_reaches_L87 X10_reaches_b87_254
    simp only [if_neg c9, bnd_some, bnd_none, rmap_some, nm_eq, Sum.elim_inl, Sum.elim_inr, un2_mk, un3_mk, un4_mk, un5_mk, un6_mk, un7_mk, un8_mk, un9_mk, un10_mk, un11_mk, un12_mk, if_pos e4, nI_1]
  have e4 : ¬ nI d = 4 := fun q => d4 ((nI_e4 hd).mp q)
  have ns := (isSq_iI (x := cX s + ((d % 3 : Nat) : Int) - 1) (y := cY s + ((d / 3 : Nat) : Int) - 1) (by omega) (by omega) (by omega) (by omega)).2
  by_cases c : inL (cX s + ((d % 3 : Nat) : Int) - 1) (cY s + ((d / 3 : Nat) : Int) - 1)
  · rw [if_pos c] at ns
    obtain ⟨q1, q2⟩ := sq_iI c
    obtain ⟨t, ht⟩ : ∃ t, t = (40 * (cY s + ((d / 3 : Nat) : Int) - 1) + (cX s + ((d % 3 : Nat) : Int) - 1)).toNat := ⟨_, rfl⟩
    rw [← ht] at q1 q2
    have aw : ag wh (nI t) = wh t := ag_nI (by omega)
    by_cases tf : t = f
    · left
      refine ⟨fun t' w hn _ h2 => absurd ((hn.2.2.1.trans ht.symm).trans tf) h2, ?_⟩
      have e5 : nI t = nI f := by rw [tf]
      unfold X10_reaches_L87 X10_reaches_b87_254
      simp only [if_neg c9, bnd_some, bnd_none, rmap_some, nm_eq, Sum.elim_inl, Sum.elim_inr, un2_mk, un3_mk, un4_mk, un5_mk, un6_mk, un7_mk, un8_mk, un9_mk, un10_mk, un11_mk, un12_mk, if_neg e4, nb_x (show s < 2 ^ 31 by omega) (show d < 2 ^ 31 by omega), nb_y (show s < 2 ^ 31 by omega) (show d < 2 ^ 31 by omega), ns, q1, if_true, if_pos e5, nI_1]
    have e5 : ¬ nI t = nI f := fun q => tf ((nI_eq (by omega) (by omega)).mp q)
    by_cases wt1 : wh t = 1
    · have agl : ag far (nI t) = nI (L t) := by rw [ag_nI (by omega), hL t q2]
      have ags : ag far (nI s) = nI (L s) := by rw [ag_nI (by omega), hL s hs]
      have agi : ag iw (nI t) = iw t := ag_nI (by omega)
      have au1 : ∀ x, au far (nI t) x = upd far t x := fun x => au_nI (by omega)
      have au2 : ∀ x, au iw (nI t) x = upd iw t x := fun x => au_nI (by omega)
      have rm : (nI fst + nI many) - (nI fst + nI many) / 1200 * 1200 = nI ((fst + many) % 1200) := by rw [nI_add]; exact pk_rem (d := 1200) (by omega) (by decide) (by decide)
      have ir : ix (nI ((fst + many) % 1200)) 1200 = true := ix_nI (by omega) (by decide)
      have au3 : ∀ x, au wt (nI ((fst + many) % 1200)) x = upd wt ((fst + many) % 1200) x := fun x => au_nI (by omega)
      have bt := hb t
      have bs := hb s
      by_cases l : L s + (if d % 2 = 1 then 5 else 7) < L t
      · right
        refine ⟨t, _, ⟨d4, c, ht, rfl⟩, wt1, tf, l, fun hi => ?_, fun hi => ?_⟩
        · by_cases o : d % 2 = 1
          · rw [if_pos o] at l ⊢
            have o' : nI (d % 2) = 1 := (nI_e1 (by omega)).mpr o
            unfold X10_reaches_L87 X10_reaches_b87_254 X10_reaches_b87_189 X10_reaches_b87_254
            simp only [if_neg c9, bnd_some, bnd_none, rmap_some, nm_eq, Sum.elim_inl, Sum.elim_inr, un2_mk, un3_mk, un4_mk, un5_mk, un6_mk, un7_mk, un8_mk, un9_mk, un10_mk, un11_mk, un12_mk, if_neg e4, nb_x (show s < 2 ^ 31 by omega) (show d < 2 ^ 31 by omega), nb_y (show s < 2 ^ 31 by omega) (show d < 2 ^ 31 by omega), ns, q1, if_true, if_neg e5, ck_t (ix_nI q2 (show 1200 < 2 ^ 31 by decide)), aw, wt1, ck_t (ix_nI hs (show 1200 < 2 ^ 31 by decide)), rem2 (show d < 2 ^ 31 by omega), if_pos o', ags, agl, add5, if_pos (nI_lt l (by omega)), agi, if_neg hi, au1, nI_1]
          · rw [if_neg o] at l ⊢
            have o' : ¬ nI (d % 2) = 1 := fun q => o ((nI_e1 (by omega)).mp q)
            unfold X10_reaches_L87 X10_reaches_b87_254 X10_reaches_b87_189 X10_reaches_b87_254
            simp only [if_neg c9, bnd_some, bnd_none, rmap_some, nm_eq, Sum.elim_inl, Sum.elim_inr, un2_mk, un3_mk, un4_mk, un5_mk, un6_mk, un7_mk, un8_mk, un9_mk, un10_mk, un11_mk, un12_mk, if_neg e4, nb_x (show s < 2 ^ 31 by omega) (show d < 2 ^ 31 by omega), nb_y (show s < 2 ^ 31 by omega) (show d < 2 ^ 31 by omega), ns, q1, if_true, if_neg e5, ck_t (ix_nI q2 (show 1200 < 2 ^ 31 by decide)), aw, wt1, ck_t (ix_nI hs (show 1200 < 2 ^ 31 by decide)), rem2 (show d < 2 ^ 31 by omega), if_neg o', ags, agl, add7, if_pos (nI_lt l (by omega)), agi, if_neg hi, au1, nI_1]
        · by_cases o : d % 2 = 1
          · rw [if_pos o] at l ⊢
            have o' : nI (d % 2) = 1 := (nI_e1 (by omega)).mpr o
            unfold X10_reaches_L87 X10_reaches_b87_254 X10_reaches_b87_189 X10_reaches_b87_254
            simp only [if_neg c9, bnd_some, bnd_none, rmap_some, nm_eq, Sum.elim_inl, Sum.elim_inr, un2_mk, un3_mk, un4_mk, un5_mk, un6_mk, un7_mk, un8_mk, un9_mk, un10_mk, un11_mk, un12_mk, if_neg e4, nb_x (show s < 2 ^ 31 by omega) (show d < 2 ^ 31 by omega), nb_y (show s < 2 ^ 31 by omega) (show d < 2 ^ 31 by omega), ns, q1, if_true, if_neg e5, ck_t (ix_nI q2 (show 1200 < 2 ^ 31 by decide)), aw, wt1, ck_t (ix_nI hs (show 1200 < 2 ^ 31 by decide)), rem2 (show d < 2 ^ 31 by omega), if_pos o', ags, agl, add5, if_pos (nI_lt l (by omega)), agi, hi, au1, au2, rm, ck_t ir, au3, show vp_nar .boolean 1 = 1 from rfl, nI_1]
          · rw [if_neg o] at l ⊢
            have o' : ¬ nI (d % 2) = 1 := fun q => o ((nI_e1 (by omega)).mp q)
            unfold X10_reaches_L87 X10_reaches_b87_254 X10_reaches_b87_189 X10_reaches_b87_254
            simp only [if_neg c9, bnd_some, bnd_none, rmap_some, nm_eq, Sum.elim_inl, Sum.elim_inr, un2_mk, un3_mk, un4_mk, un5_mk, un6_mk, un7_mk, un8_mk, un9_mk, un10_mk, un11_mk, un12_mk, if_neg e4, nb_x (show s < 2 ^ 31 by omega) (show d < 2 ^ 31 by omega), nb_y (show s < 2 ^ 31 by omega) (show d < 2 ^ 31 by omega), ns, q1, if_true, if_neg e5, ck_t (ix_nI q2 (show 1200 < 2 ^ 31 by decide)), aw, wt1, ck_t (ix_nI hs (show 1200 < 2 ^ 31 by decide)), rem2 (show d < 2 ^ 31 by omega), if_neg o', ags, agl, add7, if_pos (nI_lt l (by omega)), agi, hi, au1, au2, rm, ck_t ir, au3, show vp_nar .boolean 1 = 1 from rfl, nI_1]
      · left
        refine ⟨fun t' w hn _ _ => ?_, ?_⟩
        · rw [hn.2.2.1, ← ht, hn.2.2.2]; omega
        · by_cases o : d % 2 = 1
          · rw [if_pos o] at l
            have o' : nI (d % 2) = 1 := (nI_e1 (by omega)).mpr o
            unfold X10_reaches_L87 X10_reaches_b87_254 X10_reaches_b87_189 X10_reaches_b87_254
            simp only [if_neg c9, bnd_some, bnd_none, rmap_some, nm_eq, Sum.elim_inl, Sum.elim_inr, un2_mk, un3_mk, un4_mk, un5_mk, un6_mk, un7_mk, un8_mk, un9_mk, un10_mk, un11_mk, un12_mk, if_neg e4, nb_x (show s < 2 ^ 31 by omega) (show d < 2 ^ 31 by omega), nb_y (show s < 2 ^ 31 by omega) (show d < 2 ^ 31 by omega), ns, q1, if_true, if_neg e5, ck_t (ix_nI q2 (show 1200 < 2 ^ 31 by decide)), aw, wt1, ck_t (ix_nI hs (show 1200 < 2 ^ 31 by decide)), rem2 (show d < 2 ^ 31 by omega), if_pos o', ags, agl, add5, if_neg (nI_nlt (show L t ≤ L s + 5 by omega) (by omega)), nI_1]
          · rw [if_neg o] at l
            have o' : ¬ nI (d % 2) = 1 := fun q => o ((nI_e1 (by omega)).mp q)
            unfold X10_reaches_L87 X10_reaches_b87_254 X10_reaches_b87_189 X10_reaches_b87_254
            simp only [if_neg c9, bnd_some, bnd_none, rmap_some, nm_eq, Sum.elim_inl, Sum.elim_inr, un2_mk, un3_mk, un4_mk, un5_mk, un6_mk, un7_mk, un8_mk, un9_mk, un10_mk, un11_mk, un12_mk, if_neg e4, nb_x (show s < 2 ^ 31 by omega) (show d < 2 ^ 31 by omega), nb_y (show s < 2 ^ 31 by omega) (show d < 2 ^ 31 by omega), ns, q1, if_true, if_neg e5, ck_t (ix_nI q2 (show 1200 < 2 ^ 31 by decide)), aw, wt1, ck_t (ix_nI hs (show 1200 < 2 ^ 31 by decide)), rem2 (show d < 2 ^ 31 by omega), if_neg o', ags, agl, add7, if_neg (nI_nlt (show L t ≤ L s + 7 by omega) (by omega)), nI_1]
    · left
      refine ⟨fun t' w hn h1 _ => ?_, ?_⟩
      · rw [hn.2.2.1, ← ht] at h1; exact absurd h1 wt1
      · unfold X10_reaches_L87 X10_reaches_b87_254
        simp only [if_neg c9, bnd_some, bnd_none, rmap_some, nm_eq, Sum.elim_inl, Sum.elim_inr, un2_mk, un3_mk, un4_mk, un5_mk, un6_mk, un7_mk, un8_mk, un9_mk, un10_mk, un11_mk, un12_mk, if_neg e4, nb_x (show s < 2 ^ 31 by omega) (show d < 2 ^ 31 by omega), nb_y (show s < 2 ^ 31 by omega) (show d < 2 ^ 31 by omega), ns, q1, if_true, if_neg e5, ck_t (ix_nI q2 (show 1200 < 2 ^ 31 by decide)), aw, if_neg wt1, nI_1]
  · left
    rw [if_neg c] at ns
    refine ⟨fun t' w hn => absurd hn.2.1 c, ?_⟩
    unfold X10_reaches_L87 X10_reaches_b87_254
    simp only [if_neg c9, bnd_some, bnd_none, rmap_some, nm_eq, Sum.elim_inl, Sum.elim_inr, un2_mk, un3_mk, un4_mk, un5_mk, un6_mk, un7_mk, un8_mk, un9_mk, un10_mk, un11_mk, un12_mk, if_neg e4, nb_x (show s < 2 ^ 31 by omega) (show d < 2 ^ 31 by omega), nb_y (show s < 2 ^ 31 by omega) (show d < 2 ^ 31 by omega), ns, if_neg (show ¬ (1 : Int32) = 0 by decide), nI_1]
/-- all nine -/
theorem reach9 {wh far iw wt : Ar} {f fst s many : Nat} {L q : Nat → Nat} (hL : ∀ t, t < 1200 → far t = nI (L t)) (h : RI wh f (fun x => x = s) L iw wt q fst many) (hf : f < 1200) (hs : s < 1200) (hsf : s = f ∨ wh s = 1) :
    ∃ (far' iw' wt' : Ar) (m : Nat) (L' q' : Nat → Nat), whileV (fun st => X10_reaches_L87 wh (nI f) (nI fst) (nI s) st.1 st.2.1 st.2.2.1 st.2.2.2.1 st.2.2.2.2) (far, iw, wt, nI many, 0) = some (far', iw', wt', nI m) ∧ (∀ t, t < 1200 → far' t = nI (L' t)) ∧
      RI wh f (fun _ => False) L' iw' wt' q' fst m ∧ 2 * sumN L' 1200 + m ≤ 2 * sumN L 1200 + many := by
  obtain ⟨⟨far', iw', wt', m'⟩, h1, m, L', q', e1, g1, g2, g3, g4, g5⟩ := whileV_up (body := fun st => X10_reaches_L87 wh (nI f) (nI fst) (nI s) st.1 st.2.1 st.2.2.1 st.2.2.2.1 st.2.2.2.2) 9
    (fun d st => st.2.2.2.2 = nI d ∧ ∃ (m : Nat) (L' q' : Nat → Nat), st.2.2.2.1 = nI m ∧ (∀ t, t < 1200 → st.1 t = nI (L' t)) ∧ RI wh f (fun x => x = s) L' st.2.1 st.2.2.1 q' fst m ∧ 2 * sumN L' 1200 + m ≤ 2 * sumN L 1200 + many ∧ L' s = L s ∧ ∀ e, e < d → ∀ t w, isNb s e t w → wh t = 1 → t ≠ f → L' t ≤ L s + w)
    (fun r => ∃ (m : Nat) (L' q' : Nat → Nat), r.2.2.2 = nI m ∧ (∀ t, t < 1200 → r.1 t = nI (L' t)) ∧ RI wh f (fun x => x = s) L' r.2.1 r.2.2.1 q' fst m ∧ 2 * sumN L' 1200 + m ≤ 2 * sumN L 1200 + many ∧ L' s = L s ∧ ∀ e, e < 9 → ∀ t w, isNb s e t w → wh t = 1 → t ≠ f → L' t ≤ L s + w)
    (fun d st hd hst => by
      obtain ⟨far, iw, wt, i, j⟩ := st
      obtain ⟨rfl, m, L', q', rfl, g1, g2, g3, g4, g5⟩ := hst
      dsimp only at g1 g2
      left
      have hm : m ≤ 1200 := inj_le 1200 m q' (fun i hi => (g2.2.2.2.2.1 i hi).1) g2.2.2.2.2.2.1
      rcases reachL_ok (iw := iw) (wt := wt) g1 g2.2.1 hf hs hd hm g2.2.2.2.2.2.2.2 with ⟨y1, y2⟩ | ⟨t, w, y1, y2, y3, y4, y5, y6⟩
      · refine ⟨_, y2, rfl, m, L', q', rfl, g1, g2, g3, g4, fun e he t w hn w1 w2 => ?_⟩
        by_cases c : e = d
        · rw [c] at hn; rw [← g4]; exact y1 t w hn w1 w2
        · exact g5 e (by omega) t w hn w1 w2
      · have aj : adj s t w := by
          have := nb_adj hs hd y1.1 y1.2.1
          rw [y1.2.2.1, y1.2.2.2]; exact this
        obtain ⟨R1, R0⟩ := RI_set g2 (fun x => Iff.rfl) hsf aj y2 y3 y4
        have sm := sumN_u (g := L') (t := t) (v := L' s + w) aj.2.1
        have nf : ∀ x, x < 1200 → upd far t (nI (L' s + w)) x = nI (uN L' t (L' s + w) x) := by
          intro x hx
          rw [upd_at]
          unfold uN
          by_cases e : x = t
          · rw [if_pos e, if_pos e]
          · rw [if_neg e, if_neg e]; exact g1 x hx
        have ns : uN L' t (L' s + w) s = L s := by rw [uN_n aj.2.2.1]; exact g4
        have old : ∀ e, e < d + 1 → ∀ t' w', isNb s e t' w' → wh t' = 1 → t' ≠ f → uN L' t (L' s + w) t' ≤ L s + w' := by
          intro e he t' w' hn w1 w2
          by_cases c : e = d
          · subst c
            have e1 : t' = t := by rw [hn.2.2.1, y1.2.2.1]
            have e2 : w' = w := by rw [hn.2.2.2, y1.2.2.2]
            rw [e1, e2, uN_s, g4]; exact Nat.le_refl _
          · have := g5 e (by omega) t' w' hn w1 w2
            by_cases c2 : t' = t
            · rw [c2, uN_s]; rw [c2] at this; omega
            · rw [uN_n c2]; exact this
        rcases g2.2.2.2.1 t aj.2.1 y3 with ⟨z, _⟩ | ⟨z, _⟩
        · obtain ⟨_, R0⟩ := R0 z
          exact ⟨_, y6 z, rfl, m + 1, _, _, rfl, nf, R0, by omega, ns, old⟩
        · have z' : ¬ iw t = 0 := by rw [z]; decide
          exact ⟨_, y5 z', rfl, m, _, _, rfl, nf, R1 z, by omega, ns, old⟩)
    (fun st hst => by
      obtain ⟨far, iw, wt, i, j⟩ := st
      obtain ⟨rfl, m, L', q', rfl, g1, g2, g3, g4, g5⟩ := hst
      refine ⟨(far, iw, wt, nI m), ?_, m, L', q', rfl, g1, g2, g3, g4, g5⟩
      show X10_reaches_L87 wh (nI f) (nI fst) (nI s) far iw wt (nI m) (nI 9) = _
      unfold X10_reaches_L87
      rw [if_pos (show (9 : Int32) ≤ nI 9 from nI_le (a := 9) (Nat.le_refl _) (by decide))]) 0 (far, iw, wt, nI many, nI 0) (by omega) ⟨rfl, many, L, q, rfl, hL, h, Nat.le_refl _, rfl, fun e he => by omega⟩
  have e1' : m' = nI m := e1
  subst e1'
  refine ⟨far', iw', wt', m, L', q', h1, g1, ?_, g3⟩
  obtain ⟨i1, i2, i3, i4, i5, i6, i7, i8⟩ := g2
  refine ⟨i1, i2, i3, i4, i5, i6, fun o h1 h2 h3 => ?_, i8⟩
  rcases i7 o h1 h2 h3 with r | r | r
  · right; right
    intro t w ha hk hn
    subst r
    obtain ⟨d, d1, d2, d3, d4, d5⟩ := adj_nb ha
    rw [g4]
    exact g5 d d1 t w ⟨d2, d3, d4, d5⟩ hk hn
  · exact Or.inr (Or.inl r)
  · exact Or.inr (Or.inr r)
theorem reach_loop {wh : Ar} {f : Nat} (hf : f < 1200) : ∀ (M : Nat) (far iw wt : Ar) (fst many : Nat) (L q : Nat → Nat), 2 * sumN L 1200 + many ≤ M → (∀ t, t < 1200 → far t = nI (L t)) → RI wh f (fun _ => False) L iw wt q fst many →
    ∃ (far' iw' wt' : Ar) (L' q' : Nat → Nat) (fst' : Nat), whileV (fun st => X10_reaches_L53 wh (nI f) st.1 st.2.1 st.2.2.1 st.2.2.2.1 st.2.2.2.2) (far, iw, wt, nI fst, nI many) = some (far', iw', wt') ∧ (∀ t, t < 1200 → far' t = nI (L' t)) ∧ RI wh f (fun _ => False) L' iw' wt' q' fst' 0 := by
  intro M
  induction M with
  | zero =>
    intro far iw wt fst many L q hM hL h
    have e : many = 0 := by omega
    subst e
    refine ⟨far, iw, wt, L, q, fst, whileV_end ?_, hL, h⟩
    show X10_reaches_L53 wh (nI f) far iw wt (nI fst) (nI 0) = _
    unfold X10_reaches_L53
    rw [if_pos (show nI 0 ≤ 0 by decide)]
  | succ M ih =>
    intro far iw wt fst many L q hM hL h
    cases many with
    | zero =>
      refine ⟨far, iw, wt, L, q, fst, whileV_end ?_, hL, h⟩
      show X10_reaches_L53 wh (nI f) far iw wt (nI fst) (nI 0) = _
      unfold X10_reaches_L53
      rw [if_pos (show nI 0 ≤ 0 by decide)]
    | succ many =>
      obtain ⟨i1, i2, i3, i4, i5, i6, i7, i8⟩ := h
      obtain ⟨s1, s2, s3, s4⟩ := i5 0 (by omega)
      have hm : many + 1 ≤ 1200 := inj_le 1200 (many + 1) q (fun i hi => (i5 i hi).1) i6
      have hR : RI wh f (fun x => x = q 0) L (upd iw (q 0) 0) wt (fun j => q (j + 1)) ((fst + 1) % 1200) many := by
        refine ⟨i1, i2, i3, fun s h1 h2 => ?_, fun j hj => ?_, fun i j hi hj => i6 (i + 1) (j + 1) (by omega) (by omega), fun o h1 h2 h3 => ?_, by omega⟩
        · rw [upd_at]
          by_cases e : s = q 0
          · rw [if_pos e]
            exact Or.inl ⟨rfl, fun j hj => by rw [e]; exact Ne.symm (i6 0 (j + 1) (by omega) (by omega))⟩
          · rw [if_neg e]
            rcases i4 s h1 h2 with ⟨a, b⟩ | ⟨a, j, c, d⟩
            · exact Or.inl ⟨a, fun j hj => b (j + 1) (by omega)⟩
            · refine Or.inr ⟨a, j - 1, ?_, ?_⟩
              · have : j ≠ 0 := fun z => e (by rw [← d, z])
                omega
              · have : j ≠ 0 := fun z => e (by rw [← d, z])
                show q (j - 1 + 1) = s
                rw [show j - 1 + 1 = j by omega]; exact d
        · obtain ⟨a, b, c, d⟩ := i5 (j + 1) (by omega)
          refine ⟨a, b, c, ?_⟩
          rw [show ((fst + 1) % 1200 + j) % 1200 = (fst + (j + 1)) % 1200 by omega]
          exact d
        · rcases i7 o h1 h2 h3 with r | ⟨j, r1, r2⟩ | r
          · exact False.elim r
          · by_cases z : j = 0
            · left; rw [← r2, z]
            · right; left
              exact ⟨j - 1, by omega, by show q (j - 1 + 1) = o; rw [show j - 1 + 1 = j by omega]; exact r2⟩
          · exact Or.inr (Or.inr r)
      obtain ⟨far', iw', wt', m, L', q', w1, w2, w3, w4⟩ := reach9 hL hR hf s1 s2
      obtain ⟨far2, iw2, wt2, L2, q2, fst2, v1, v2, v3⟩ := ih far' iw' wt' ((fst + 1) % 1200) m L' q' (by omega) w2 w3
      refine ⟨far2, iw2, wt2, L2, q2, fst2, whileV_to (s' := (far', iw', wt', nI ((fst + 1) % 1200), nI m)) ?_ v1, v2, v3⟩
      show X10_reaches_L53 wh (nI f) far iw wt (nI fst) (nI (many + 1)) = _
      have agw : ag wt (nI fst) = nI (q 0) := by
        rw [ag_nI (by omega)]
        rw [show (fst + 0) % 1200 = fst by omega] at s4
        exact s4
      have aui : au iw (nI (q 0)) 0 = upd iw (q 0) 0 := au_nI (by omega)
      have rm : (nI (fst + 1)) - (nI (fst + 1)) / 1200 * 1200 = nI ((fst + 1) % 1200) := pk_rem (d := 1200) (by omega) (by decide) (by decide)
      unfold X10_reaches_L53
      simp only [if_neg (nI_nle (show 0 < many + 1 by omega) (show many + 1 < 2 ^ 31 by omega)), ck_t (ix_nI i8 (show 1200 < 2 ^ 31 by decide)), agw, bnd_some, bnd_none, rmap_some, nm_eq, Sum.elim_inl, Sum.elim_inr, un2_mk, un3_mk, un4_mk, un5_mk, un6_mk, un7_mk, un8_mk, un9_mk, un10_mk, un11_mk, un12_mk, nI_1, rm, pk_m1, ck_t (ix_nI s1 (show 1200 < 2 ^ 31 by decide)), show vp_nar .boolean 0 = 0 from rfl, aui, w1]
