/-! turn, best, bound, run -/
section OPS7
variable {fa : Nat → Ar} {fi : Nat → Int32} {ga : Nat → Ar} {gi : Nat → Int32}
theorem need1 : X9_needRows 1 = some (.inr ()) := by unfold X9_needRows; rw [if_neg n10]; rfl
theorem Kn_Len {kn len : Ar} {D : Nat → Nat → Nat} {m : Nat} (K : Kn kn len D m) (h : ∀ f, f < 2 * m → kn f = 1) : LenOK len D m := fun f t hf ht => by
  rcases K f hf with z | ⟨_, z⟩
  · rw [h f hf] at z; exact absurd z n10
  · exact z t ht
theorem D_sym {kd : Ar} {E : Nat → Nat} {D : Nat → Nat → Nat} {m : Nat} (h : ∀ f t, f < 2 * m → t < 2 * m → Dst kd (E f) (E t) (D f t)) : ∀ a b, a < 2 * m → b < 2 * m → D a b = D b a := fun a b ha hb => Dst_fun (h a b ha hb) (Dst_sym (h b a hb ha))
theorem o_turn (h : Inv9 fa fi ga gi) (x1 x2 : Int32) : St_turn Inv9 fa fi ga gi x1 x2 := by
  have h' := h
  obtain ⟨hr, hl, hs, hp, hw⟩ := h
  rcases hw with ⟨l1, _, _, _, l2, _⟩ | ⟨l1, l2, l3, m, E, D, e1, e2, R, K, Pl⟩
  · unfold St_turn X9_turn X9_needRows X10_turn X10_turn_b18
    rw [l1, l2, if_pos rfl, if_pos rfl, thr1]
    exact Or.inr (Or.inl ⟨rfl, 0, 1, rfl, rfl, h'⟩)
  · have m60 := R.1
    obtain ⟨il, lo⟩ := landOf hl l3
    have tm : (2 : Int32) * nI m = nI (2 * m) := pk_mul 2 m
    have hD := fun f t hf ht => (R.2.2.2.2.2 f t hf ht).1
    have hb := DB_of hD
    have hT : TurOK (ga 9) D m := fun f t hf ht => (R.2.2.2.2.2 f t hf ht).2
    have bad : X9_turn 1 (nI m) (fi 8) (fi 9) (fa 8) (fa 9) (fa 22) (fa 24) (fa 23) (fa 11) (fa 13) (fa 12) x1 x2 = some (.inl 5) → X10_turn (gi 0) 1 (nI m) (ga 9) x1 x2 = some (0, 2) → St_turn Inv9 fa fi ga gi x1 x2 := fun y1 y2 =>
      Or.inr (Or.inr ⟨by rw [l1, e1]; exact y1, 0, 2, by rw [l2, e2]; exact y2, rfl, h'⟩)
    have noE : ∀ x : Int32, x < 0 ∨ ¬ x < nI (2 * m) → X10_noEnd (nI m) x = some 1 := fun x c => by
      unfold X10_noEnd X10_noEnd_b14
      rw [tm]
      by_cases q : x < 0
      · rw [if_pos q]
      · rw [if_neg q]
        rcases c with c | c
        · exact absurd c q
        · rw [if_neg c]
    have isE : ∀ x : Int32, ¬ x < 0 → x < nI (2 * m) → X10_noEnd (nI m) x = some 0 := fun x c d => by
      unfold X10_noEnd
      rw [tm, if_neg c, if_pos d]
    by_cases c : x1 < 0
    · refine bad ?_ ?_
      · unfold X9_turn
        simp only [need1, bnd_some, Sum.elim_inr, nm_eq, if_pos c]
      · unfold X10_turn X10_turn_b18 X10_turn_b51 X10_turn_b56
        simp only [if_neg n10, thr0, thr1, bnd_some, un2_mk, if_true, noE x1 (Or.inl c)]
    obtain ⟨f, hf, rfl⟩ := nI_of c
    by_cases d : f < 2 * m
    · have cd : nI f < nI (2 * m) := nI_lt d (by omega)
      have cd' : ¬ nI (2 * m) ≤ nI f := nI_ge d (by omega)
      by_cases c2 : x2 < 0
      · refine bad ?_ ?_
        · unfold X9_turn
          simp only [need1, bnd_some, Sum.elim_inr, nm_eq, tm, if_neg c, if_neg cd', if_pos c2]
        · unfold X10_turn X10_turn_b18 X10_turn_b51 X10_turn_b56
          simp only [if_neg n10, thr0, thr1, bnd_some, un2_mk, if_true, isE _ c cd, noE x2 (Or.inl c2)]
      obtain ⟨t, ht, rfl⟩ := nI_of c2
      by_cases d2 : t < 2 * m
      · have cd2 : nI t < nI (2 * m) := nI_lt d2 (by omega)
        by_cases q : f / 2 = t / 2
        · have q' : nI f / 2 = nI t / 2 := by rw [div2 hf, div2 ht, q]
          refine bad ?_ ?_
          · unfold X9_turn
            simp only [need1, bnd_some, Sum.elim_inr, nm_eq, tm, if_neg c, if_neg cd', if_neg c2, if_pos cd2, if_pos q']
          · unfold X10_turn X10_turn_b18 X10_turn_b51 X10_turn_b56
            simp only [if_neg n10, thr0, thr1, bnd_some, un2_mk, if_true, isE _ c cd, isE _ c2 cd2, if_pos q']
        · have q' : ¬ nI f / 2 = nI t / 2 := by rw [div2 hf, div2 ht]; exact nI_ne (by omega) (by omega) q
          obtain ⟨kn', len', s1', s2', wl', sla', str', w1, w2, w3, w4⟩ := learn_ok lo.2.2.1 m60 (fun k hk => ⟨(R.2.2.1 k hk).1, (R.2.2.1 k hk).2.2.1, (R.2.2.1 k hk).2.2.2⟩) hD K d (fi 8) (fi 9) (fa 11) (fa 13) (fa 12)
          have len1 : X7_length len' (nI f) (nI t) = some (nI (D f t)) := by
            rcases w2 f d with z | ⟨_, z⟩
            · rw [w3] at z; exact absurd z n10
            · unfold X7_length
              rw [t120, ck_t (ix_nI (by omega) (by decide)), ag_nI (by omega), z t d2]
          have bd := hb f t d d2
          have on := orNone_ok (v := D f t) (by omega)
          rw [← tnv_svR bd] at on
          refine Or.inl ⟨tnv (D f t), s1', s2', kn', len', wl', sla', str', ?_, tnv (D f t), 0, ?_, rfl, rfl, hr, hl, hs, hp, Or.inr ⟨l1, l2, l3, m, E, D, e1, e2, R, w2, ?_⟩⟩
          · rw [l1, e1]
            unfold X9_turn
            simp only [need1, bnd_some, Sum.elim_inr, nm_eq, tm, if_neg c, if_neg cd', if_neg c2, if_pos cd2, if_neg q', w1, un7_mk, len1, on, rmap_some]
          · rw [l2, e2]
            unfold X10_turn X10_turn_b18 X10_turn_b56
            simp only [if_neg n10, thr0, bnd_some, un2_mk, if_true, isE _ c cd, isE _ c2 cd2, if_neg q', turnOf_ok hT m60 d d2]
          · rcases Pl with z | ⟨z1, z2, z3, z4, z5⟩
            · exact Or.inl z
            · exact Or.inr ⟨z1, z2, z3, fun j hj => w4 j hj (z4 j hj), z5⟩
      · have cd2 : ¬ nI t < nI (2 * m) := nI_nlt (by omega) ht
        refine bad ?_ ?_
        · unfold X9_turn
          simp only [need1, bnd_some, Sum.elim_inr, nm_eq, tm, if_neg c, if_neg cd', if_neg c2, if_neg cd2]
        · unfold X10_turn X10_turn_b18 X10_turn_b51 X10_turn_b56
          simp only [if_neg n10, thr0, thr1, bnd_some, un2_mk, if_true, isE _ c cd, noE _ (Or.inr cd2)]
    · have cd : ¬ nI f < nI (2 * m) := nI_nlt (by omega) hf
      have cd' : nI (2 * m) ≤ nI f := nI_le (by omega) hf
      refine bad ?_ ?_
      · unfold X9_turn
        simp only [need1, bnd_some, Sum.elim_inr, nm_eq, tm, if_neg c, if_pos cd']
      · unfold X10_turn X10_turn_b18 X10_turn_b51 X10_turn_b56
        simp only [if_neg n10, thr0, thr1, bnd_some, un2_mk, if_true, noE _ (Or.inr cd)]
theorem learnAll2 {kd nr en kn len : Ar} {E : Nat → Nat} {D : Nat → Nat → Nat} {m : Nat} (hnr : NearOK kd nr) (hm : m ≤ 60) (hE : ∀ k, k < 2 * m → en k = nI (E k) ∧ E k < 1200 ∧ kd (E k) = 2) (hD : ∀ f t, f < 2 * m → t < 2 * m → Dst kd (E f) (E t) (D f t)) (hK : Kn kn len D m) (s1 s2 : Int32) (wl sla str : Ar) :
    ∃ kn' len' s1' s2' wl' sla' str', X7_learnAll kn len (nI m) s1 s2 en wl sla str kd nr = some (kn', len', s1', s2', wl', sla', str') ∧ Kn kn' len' D m ∧ LenOK len' D m ∧ ∀ f, f < 2 * m → kn' f = 1 := by
  have tm : (2 : Int32) * nI m = nI (2 * m) := pk_mul 2 m
  obtain ⟨⟨kn', len', s1', s2', wl', sla', str'⟩, h1, h2, h3⟩ := whileV_up (body := fun s => X7_learnAll_L2 (nI m) en kd nr s.1 s.2.1 s.2.2.1 s.2.2.2.1 s.2.2.2.2.1 s.2.2.2.2.2.1 s.2.2.2.2.2.2.1 s.2.2.2.2.2.2.2) (2 * m)
    (fun k s => s.2.2.2.2.2.2.2 = nI k ∧ Kn s.1 s.2.1 D m ∧ ∀ j, j < k → s.1 j = 1)
    (fun r => Kn r.1 r.2.1 D m ∧ ∀ j, j < 2 * m → r.1 j = 1)
    (fun k s hk hs => by
      obtain ⟨kn, len, s1, s2, wl, sla, str, i⟩ := s
      obtain ⟨rfl, q1, q2⟩ := hs
      dsimp only at q1 q2
      left
      obtain ⟨kn', len', s1', s2', wl', sla', str', w1, w2, w3, w4⟩ := learn_ok hnr hm hE hD q1 hk s1 s2 wl sla str
      refine ⟨(kn', len', s1', s2', wl', sla', str', nI (k + 1)), ?_, rfl, w2, fun j hj => ?_⟩
      · show X7_learnAll_L2 (nI m) en kd nr kn len s1 s2 wl sla str (nI k) = _
        unfold X7_learnAll_L2
        simp only [tm, if_neg (nI_ge hk (show 2 * m < 2 ^ 31 by omega)), w1, bnd_some, bnd_none, rmap_some, nm_eq, Sum.elim_inl, Sum.elim_inr, un2_mk, un3_mk, un4_mk, un5_mk, un6_mk, un7_mk, un8_mk, un9_mk, un10_mk, un11_mk, un12_mk, nI_1]
      · by_cases e : j = k
        · rw [e]; exact w3
        · exact w4 j (by omega) (q2 j (by omega)))
    (fun s hs => by
      obtain ⟨kn, len, s1, s2, wl, sla, str, i⟩ := s
      obtain ⟨rfl, q⟩ := hs
      refine ⟨(kn, len, s1, s2, wl, sla, str), ?_, q⟩
      show X7_learnAll_L2 (nI m) en kd nr kn len s1 s2 wl sla str (nI (2 * m)) = _
      unfold X7_learnAll_L2
      rw [tm, if_pos (nI_le (Nat.le_refl _) (by omega))]) 0 (kn, len, s1, s2, wl, sla, str, 0) (by omega) ⟨rfl, hK, fun j hj => by omega⟩
  refine ⟨kn', len', s1', s2', wl', sla', str', ?_, h2, Kn_Len h2 h3, h3⟩
  unfold X7_learnAll
  simp only [h1, bnd_some, bnd_none, rmap_some, nm_eq, Sum.elim_inl, Sum.elim_inr, un2_mk, un3_mk, un4_mk, un5_mk, un6_mk, un7_mk, un8_mk, un9_mk, un10_mk, un11_mk, un12_mk]
theorem o_best (h : Inv9 fa fi ga gi) : St_best Inv9 fa fi ga gi := by
  have h' := h
  obtain ⟨hr, hl, hs, hp, hw⟩ := h
  rcases hw with ⟨l1, _, p1, _, l2, p2⟩ | ⟨l1, l2, l3, m, E, D, e1, e2, R, K, Pl⟩
  · unfold St_best X9_best X9_needRows X10_best X10_best_b18
    rw [l1, l2, if_pos rfl, if_pos rfl, thr1]
    exact Or.inr ⟨rfl, 0, 1, gi 4, ga 22, ga 10, ga 21, rfl, rfl, h'⟩
  · have m60 := R.1
    obtain ⟨il, lo⟩ := landOf hl l3
    have hD := fun f t hf ht => (R.2.2.2.2.2 f t hf ht).1
    have hb := DB_of hD
    have hT : TurOK (ga 9) D m := fun f t hf ht => (R.2.2.2.2.2 f t hf ht).2
    obtain ⟨kn', len', s1', s2', wl', sla', str', w1, w2, w3, w4⟩ := learnAll2 lo.2.2.1 m60 (fun k hk => ⟨(R.2.2.1 k hk).1, (R.2.2.1 k hk).2.2.1, (R.2.2.1 k hk).2.2.2⟩) hD K (fi 8) (fi 9) (fa 11) (fa 13) (fa 12)
    left
    rcases best_ok (pn := fa 25) (pl := ga 10) w3 hT hb m60 (D_sym hD) (fi 12) (fi 13) (gi 4) (fa 26) (ga 21) (ga 22) with ⟨rests', rest', pn', pl', iu', P, b1, b2, b3, b4, b5, b6⟩ | ⟨rests', rest', pn', pl', iu', b1, b2⟩
    · refine ⟨nI (sP D P m), 1, nI m, s1', s2', pn', rests', kn', len', wl', sla', str', ?_, nI (sP D P m), 0, 1, iu', pl', rest', ?_, rfl, rfl, hr, hl, hs, hp, Or.inr ⟨l1, l2, l3, m, E, D, e1, e2, R, w2, Or.inr ⟨rfl, rfl, rfl, w4, P, b3, b4, b6⟩⟩⟩
      · rw [l1, e1]
        unfold X9_best
        simp only [need1, bnd_some, Sum.elim_inr, w1, un7_mk, b1, un5_mk, rmap_some]
      · rw [l2, e2]
        unfold X10_best X10_best_b18
        simp only [if_neg n10, thr0, bnd_some, un2_mk, if_true, b2, un5_mk]
    · refine ⟨-1, 0, 0, s1', s2', pn', rests', kn', len', wl', sla', str', ?_, -1, 0, 0, iu', pl', rest', ?_, rfl, rfl, hr, hl, hs, hp, Or.inr ⟨l1, l2, l3, m, E, D, e1, e2, R, w2, Or.inl ⟨rfl, rfl, rfl⟩⟩⟩
      · rw [l1, e1]
        unfold X9_best
        simp only [need1, bnd_some, Sum.elim_inr, w1, un7_mk, b1, un5_mk, rmap_some]
      · rw [l2, e2]
        unfold X10_best X10_best_b18
        simp only [if_neg n10, thr0, bnd_some, un2_mk, if_true, b2, un5_mk]
theorem o_bound (h : Inv9 fa fi ga gi) : St_bound Inv9 fa fi ga gi := by
  have h' := h
  obtain ⟨hr, hl, hs, hp, hw⟩ := h
  rcases hw with ⟨l1, _, p1, _, l2, p2⟩ | ⟨l1, l2, l3, m, E, D, e1, e2, R, K, Pl⟩
  · unfold St_bound X9_bound X9_needRows X10_bound X10_bound_b18
    rw [l1, l2, if_pos rfl, if_pos rfl, thr1]
    exact Or.inr ⟨rfl, 0, 1, rfl, rfl, h'⟩
  · have m60 := R.1
    obtain ⟨il, lo⟩ := landOf hl l3
    have hD := fun f t hf ht => (R.2.2.2.2.2 f t hf ht).1
    have hb := DB_of hD
    have hT : TurOK (ga 9) D m := fun f t hf ht => (R.2.2.2.2.2 f t hf ht).2
    obtain ⟨kn', len', s1', s2', wl', sla', str', w1, w2, w3, w4⟩ := learnAll2 lo.2.2.1 m60 (fun k hk => ⟨(R.2.2.1 k hk).1, (R.2.2.1 k hk).2.2.1, (R.2.2.1 k hk).2.2.2⟩) hD K (fi 8) (fi 9) (fa 11) (fa 13) (fa 12)
    have key : ∃ r x : Int32, X7_leastOfAll len' (nI m) = some x ∧ X9_orNone x = some r ∧ X10_bound_b18 0 (nI m) (ga 9) 0 = some (r, 0) := by
      by_cases c : 2 ≤ m
      · have c2 : (2 : Int32) ≤ nI m := nI_le (a := 2) c (by omega)
        rcases leastOfAll_ok w3 hb m60 c with ⟨q1, q2⟩ | ⟨q1, q2⟩
        · rcases boundR_ok hT hb m60 with ⟨_, y2⟩ | ⟨y1, _⟩
          · have B := sB_bd hb m (Nat.le_refl m) q1
            have B2 := B.2.2.2 (by omega)
            have on := orNone_ok (v := sB D m m - gB D m m) (by omega)
            unfold svR at on
            rw [if_pos (by omega)] at on
            refine ⟨nI (sB D m m - gB D m m), _, q2, on, ?_⟩
            unfold X10_bound_b18
            simp only [thr0, bnd_some, un2_mk, if_true, if_pos c2, y2, Sum.elim_inl, pk_sub B.2.1]
          · exact absurd q1 y1
        · rcases boundR_ok hT hb m60 with ⟨y1, _⟩ | ⟨_, y2⟩
          · exact absurd y1 q1
          · refine ⟨-1, _, q2, rfl, ?_⟩
            unfold X10_bound_b18
            simp only [thr0, bnd_some, un2_mk, if_true, if_pos c2, y2, Sum.elim_inr]
      · have c2 : ¬ (2 : Int32) ≤ nI m := nI_ge (b := 2) (by omega) (by decide)
        refine ⟨0, 0, ?_, rfl, ?_⟩
        · unfold X7_leastOfAll
          rw [if_neg c2]
        · unfold X10_bound_b18
          simp only [thr0, bnd_some, un2_mk, if_true, if_neg c2]
    obtain ⟨r, x, k1, k2, k3⟩ := key
    refine Or.inl ⟨r, s1', s2', kn', len', wl', sla', str', ?_, r, 0, ?_, rfl, rfl, hr, hl, hs, hp, Or.inr ⟨l1, l2, l3, m, E, D, e1, e2, R, w2, ?_⟩⟩
    · rw [l1, e1]
      unfold X9_bound
      simp only [need1, bnd_some, Sum.elim_inr, w1, un7_mk, k1, k2, rmap_some]
    · rw [l2, e2]
      unfold X10_bound
      rw [if_neg n10, k3]
    · rcases Pl with z | ⟨z1, z2, z3, z4, z5⟩
      · exact Or.inl z
      · exact Or.inr ⟨z1, z2, z3, w4, z5⟩
theorem o_run (h : Inv9 fa fi ga gi) : St_run Inv9 fa fi ga gi := by
  have h' := h
  obtain ⟨hr, hl, hs, hp, hw⟩ := h
  have no : fi 12 = 0 → gi 4 = 0 → St_run Inv9 fa fi ga gi := fun p1 p2 => by
    unfold St_run X9_run X9_needPlan X10_run X10_run_b20 X10_run_b25
    rw [p1, p2, if_pos rfl, if_pos rfl, thr1]
    exact Or.inr ⟨rfl, 0, 1, gi 11, ga 15, ga 16, rfl, rfl, h'⟩
  rcases hw with ⟨_, _, p1, _, _, p2⟩ | ⟨t1, t2, t3, m, E, D, t4, e2, R, K, ⟨p1, _, p2⟩ | ⟨p1, p2, e1, kn, P, P1, P2, P3⟩⟩
  · exact no p1 p2
  · exact no p1 p2
  · have m60 := R.1
    have hb := DB_of (fun f t hf ht => (R.2.2.2.2.2 f t hf ht).1)
    have hL := Kn_Len K kn
    have hT : TurOK (ga 9) D m := fun f t hf ht => (R.2.2.2.2.2 f t hf ht).2
    have S1 := (sum_ok hL hb m60 P1).1
    have S2 := sumR_ok hT hb m60 P2
    have np : X9_needPlan 1 = some (.inr ()) := by unfold X9_needPlan; rw [if_neg n10]; rfl
    unfold svR at S2
    by_cases c : sP D P m < 1000000
    · rw [Nat.min_eq_left (by omega)] at S1
      rw [if_pos c] at S2
      obtain ⟨r1, r2, r3, r4, r5, r6, r7⟩ := hp
      obtain ⟨v, find', plc', bk', seen', wag', w1, w2, w3, w4⟩ := run_ok (find := fa 31) (plc := fa 32) (seen := ga 15) (wag := ga 16) (cap := fi 15) (wt := fi 16) (un := fi 17) (bk := gi 11) m60 (cnt_le _ _) R.2.2.2.2.1 P1 P2 P3 (fun s hs => (r1 s hs).1) (fun s hs => (r2 s hs).1) hT hb c
      rw [r3.1, r4.1, r5.1] at w2
      refine Or.inl ⟨v, find', plc', ?_, v, 0, bk', seen', wag', ?_, rfl, rfl, hr, hl, hs, ⟨r1, r2, r3, r4, r5, w3, w4⟩, Or.inr ⟨t1, t2, t3, m, E, D, t4, e2, R, K, Or.inr ⟨p1, p2, e1, kn, P, P1, P2, P3⟩⟩⟩
      · rw [p1, e1]
        unfold X9_run
        simp only [np, bnd_some, Sum.elim_inr, S1, if_pos (show nI (sP D P m) < 1000000 from nI_lt (b := 1000000) c (by decide)), w1, un3_mk, rmap_some]
      · rw [p2, e2]
        unfold X10_run
        simp only [if_neg n10, S2, bnd_some, if_pos (show (0 : Int32) ≤ nI (sP D P m) from nI_le (a := 0) (Nat.zero_le _) (by omega))]
        exact w2
    · rw [Nat.min_eq_right (by omega)] at S1
      rw [if_neg c] at S2
      refine Or.inr ⟨?_, 0, 1, gi 11, ga 15, ga 16, ?_, rfl, h'⟩
      · rw [p1, e1]
        unfold X9_run
        simp only [np, bnd_some, Sum.elim_inr, S1, if_neg (show ¬ nI 1000000 < 1000000 by decide)]
      · rw [p2, e2]
        unfold X10_run X10_run_b20 X10_run_b25
        simp only [if_neg n10, S2, bnd_some, if_neg (show ¬ (0 : Int32) ≤ -1 by decide), thr1, un2_mk]
end OPS7
