/-! what holds between two calls -/
def IPl (pn kn : Ar) (pth psz : Int32) (pl : Ar) (hp : Int32) (m : Nat) : Prop := (pth = 0 ∧ psz = 0 ∧ hp = 0) ∨ (pth = 1 ∧ hp = 1 ∧ psz = nI m ∧ (∀ f, f < 2 * m → kn f = 1) ∧ ∃ P, PlOK pn P m ∧ PlOK pl P m ∧ RowD P m)
def IRows (laid : Int32) (kd nu en sq sta st kn len pn : Ar) (th sz pth psz : Int32) (ro enr rs str alr tu pl : Ar) (hr hp rws : Int32) : Prop :=
  (th = 0 ∧ sz = 0 ∧ pth = 0 ∧ psz = 0 ∧ hr = 0 ∧ hp = 0) ∨ (th = 1 ∧ hr = 1 ∧ laid = 1 ∧ ∃ m E D, sz = nI m ∧ rws = nI m ∧ RowsOK kd nu en sq sta st (cnt (fun s => decide (kd s = 2)) 1200) m ro enr rs str alr tu E D ∧ Kn kn len D m ∧ IPl pn kn pth psz pl hp m)
def Inv9 (fa : Nat → Ar) (fi : Nat → Int32) (ga : Nat → Ar) (gi : Nat → Int32) : Prop :=
  (IRing (fi 0) (fa 0) (fa 1) 0 (ga 0) (ga 1) (ga 2) ∧ IRing (fi 1) (fa 2) (fa 3) 1 (ga 0) (ga 1) (ga 2) ∧ IRing (fi 2) (fa 4) (fa 5) 2 (ga 0) (ga 1) (ga 2) ∧ IRing (fi 3) (fa 6) (fa 7) 3 (ga 0) (ga 1) (ga 2)) ∧
  ILand (fi 4) (fi 5) (fi 6) (fi 7) (fa 8) (fa 9) (gi 1) (gi 2) (ga 3) ∧ ISlant (fi 14) (fa 27) (fa 28) (gi 6) (ga 11) (ga 12) ∧ IReap (fa 29) (fa 30) (fa 31) (fa 32) (fi 15) (fi 16) (fi 17) (ga 13) (ga 14) (ga 15) (ga 16) (gi 7) (gi 8) (gi 9) ∧
  IRows (fi 4) (fa 8) (fa 16) (fa 22) (fa 20) (fa 21) (fa 14) (fa 24) (fa 23) (fa 25) (fi 10) (fi 11) (fi 12) (fi 13) (ga 4) (ga 8) (ga 7) (ga 5) (ga 6) (ga 9) (ga 10) (gi 3) (gi 4) (gi 5)
theorem thr0 (t c : Int32) : X10_throwsIf t 0 c = some (0, t) := rfl
theorem thr1 (t c : Int32) : X10_throwsIf t 1 c = some (1, c) := rfl
theorem orNone_ok {v : Nat} (h : v < 2 ^ 31) : X9_orNone (nI v) = some (svR v) := by
  unfold X9_orNone svR
  by_cases c : v < 1000000
  · rw [if_pos (show nI v < 1000000 from nI_lt (b := 1000000) c (by decide)), if_pos c]
  · rw [if_neg (show ¬ nI v < 1000000 from (show ¬ nI v < nI 1000000 from nI_nlt (by omega) h)), if_neg c]
theorem tnv_svR {v : Nat} (h : v ≤ 16807 ∨ v = 1000000) : tnv v = svR v := by
  unfold tnv svR
  rcases h with h | h
  · rw [if_neg (by omega), if_pos (by omega)]
  · rw [if_pos h, if_neg (by omega)]
theorem n10 : ¬ (1 : Int32) = 0 := by decide
section OPS9
variable {fa : Nat → Ar} {fi : Nat → Int32} {ga : Nat → Ar} {gi : Nat → Int32}
theorem o_slant (h : Inv9 fa fi ga gi) (x1 x2 : Int32) : St_slant Inv9 fa fi ga gi x1 x2 := by
  obtain ⟨hr, hl, hs, hp, hw⟩ := h
  obtain ⟨r, n2, A2, B2, a1, b, th, n3, A3, B3, a2, a3, a4⟩ := m_slant hs (gi 0) x1 x2
  exact ⟨r, n2, A2, B2, a1, b, th, n3, A3, B3, a2, a3, hr, hl, a4, hp, hw⟩
theorem o_unslant (h : Inv9 fa fi ga gi) : St_unslant Inv9 fa fi ga gi := by
  obtain ⟨hr, hl, hs, hp, hw⟩ := h
  obtain ⟨r, n2, a1, b, th, n3, a2, a3, a4⟩ := m_unslant hs (gi 0)
  exact ⟨r, n2, a1, b, th, n3, a2, a3, hr, hl, a4, hp, hw⟩
theorem o_yields (h : Inv9 fa fi ga gi) (x1 x2 x3 : Int32) : St_yields Inv9 fa fi ga gi x1 x2 x3 := by
  obtain ⟨hr, hl, hs, hp, hw⟩ := h
  rcases m_yields hp (gi 0) x1 x2 x3 with ⟨c, a1, th, Y, a2, a3, a4⟩ | ⟨a1, th, Y, a2, a3, a4⟩ | ⟨a1, th, Y, a2, a3, a4⟩
  · exact Or.inl ⟨c, a1, th, Y, a2, a3, hr, hl, hs, a4, hw⟩
  · exact Or.inr (Or.inl ⟨a1, th, Y, a2, a3, hr, hl, hs, a4, hw⟩)
  · exact Or.inr (Or.inr ⟨a1, th, Y, a2, a3, hr, hl, hs, a4, hw⟩)
theorem o_bears (h : Inv9 fa fi ga gi) (x1 x2 x3 : Int32) : St_bears Inv9 fa fi ga gi x1 x2 x3 := by
  obtain ⟨hr, hl, hs, hp, hw⟩ := h
  rcases m_bears hp (gi 0) x1 x2 x3 with ⟨c, a1, th, Y, a2, a3, a4⟩ | ⟨a1, th, Y, a2, a3, a4⟩ | ⟨a1, th, Y, a2, a3, a4⟩
  · exact Or.inl ⟨c, a1, th, Y, a2, a3, hr, hl, hs, a4, hw⟩
  · exact Or.inr (Or.inl ⟨a1, th, Y, a2, a3, hr, hl, hs, a4, hw⟩)
  · exact Or.inr (Or.inr ⟨a1, th, Y, a2, a3, hr, hl, hs, a4, hw⟩)
theorem o_reaper (h : Inv9 fa fi ga gi) (x1 x2 x3 : Int32) : St_reaper Inv9 fa fi ga gi x1 x2 x3 := by
  obtain ⟨hr, hl, hs, hp, hw⟩ := h
  rcases m_reaper hp (gi 0) x1 x2 x3 with ⟨c, w, u, a1, th, c2, w2, u2, a2, a3, a4⟩ | ⟨a1, th, c2, w2, u2, a2, a3, a4⟩
  · exact Or.inl ⟨c, w, u, a1, th, c2, w2, u2, a2, a3, hr, hl, hs, a4, hw⟩
  · exact Or.inr ⟨a1, th, c2, w2, u2, a2, a3, hr, hl, hs, a4, hw⟩
theorem o_look (h : Inv9 fa fi ga gi) (x1 : Int32) : St_look Inv9 fa fi ga gi x1 := by
  have h' := h
  obtain ⟨hr, hl, hs, hp, hw⟩ := h
  rcases m_look hp.2.2.2.2.2.1 (gi 0) x1 with ⟨r, a1, b, th, a2, a3, a4⟩ | ⟨a1, b, th, a2, a3⟩
  · exact Or.inl ⟨r, a1, b, th, a2, a3, a4, h'⟩
  · exact Or.inr ⟨a1, b, th, a2, a3, h'⟩
theorem o_wagon (h : Inv9 fa fi ga gi) (x1 : Int32) : St_wagon Inv9 fa fi ga gi x1 := by
  have h' := h
  obtain ⟨hr, hl, hs, hp, hw⟩ := h
  obtain ⟨_, _, _, _, _, q1, w, q2, q3, q4⟩ := hp
  obtain ⟨r, a1, b, th, a2, a3⟩ := m_wagon q2 q3 q1 q4 (gi 0) x1
  exact ⟨r, a1, b, th, a2, a3, h'⟩
theorem o_square (h : Inv9 fa fi ga gi) (x1 x2 : Int32) : St_square Inv9 fa fi ga gi x1 x2 := by
  have h' := h
  obtain ⟨hr, hl, hs, hp, hw⟩ := h
  unfold St_square X9_square X9_needLaid X10_square X10_square_b18
  rcases hl with ⟨l1, l2, _⟩ | ⟨l1, l2, _, k, _⟩
  · rw [l1, l2, if_pos rfl, if_pos rfl, thr1]
    exact Or.inr ⟨rfl, 0, 1, rfl, rfl, h'⟩
  · rw [l1, l2, if_neg n10, if_neg n10, thr0]
    left
    rcases isSquare_ok x1 x2 with ⟨a, b, a1, b1, rfl, rfl, s1, s2⟩ | ⟨s1, s2⟩
    · rw [s1, s2]
      have e : (40 : Int32) * nI b + nI a = nI (40 * b + a) := by rw [mul40, nI_add]
      have ic := ix_nI (show 40 * b + a < 1200 by omega) (show 1200 < 2 ^ 31 by decide)
      have g1 : ag (fa 8) (nI (40 * b + a)) = fa 8 (40 * b + a) := ag_nI (by omega)
      have g2 : ag (ga 3) (nI (40 * b + a)) = ga 3 (40 * b + a) := ag_nI (by omega)
      refine ⟨fa 8 (40 * b + a), ?_, fa 8 (40 * b + a), 0, ?_, rfl, rfl, h'⟩
      · simp only [rmap_some, bnd_some, Sum.elim_inr, if_neg n10, squareAt_nI, ck_t ic, g1]
      · simp only [bnd_some, un2_mk, if_true, e, ck_t ic, g2, (k _ (show 40 * b + a < 1200 by omega)).1]
    · rw [s1, s2]
      refine ⟨-1, ?_, -1, 0, ?_, rfl, rfl, h'⟩
      · simp only [rmap_some, bnd_some, Sum.elim_inr, if_true]
      · simp only [bnd_some, un2_mk, if_true, if_neg n10]
theorem o_rowOf (h : Inv9 fa fi ga gi) (x1 x2 : Int32) : St_rowOf Inv9 fa fi ga gi x1 x2 := by
  have h' := h
  obtain ⟨hr, hl, hs, hp, hw⟩ := h
  unfold St_rowOf X9_rowOf X9_needRows X10_rowOf X10_rowOf_b18
  rcases hw with ⟨l1, _, _, _, l2, _⟩ | ⟨l1, l2, _, m, E, D, _, _, R, _⟩
  · rw [l1, l2, if_pos rfl, if_pos rfl, thr1]
    exact Or.inr ⟨rfl, 0, 1, rfl, rfl, h'⟩
  · rw [l1, l2, if_neg n10, if_neg n10, thr0]
    left
    rcases isSquare_ok x1 x2 with ⟨a, b, a1, b1, rfl, rfl, s1, s2⟩ | ⟨s1, s2⟩
    · rw [s1, s2]
      have e : (40 : Int32) * nI b + nI a = nI (40 * b + a) := by rw [mul40, nI_add]
      have ic := ix_nI (show 40 * b + a < 1200 by omega) (show 1200 < 2 ^ 31 by decide)
      have g1 : ag (fa 16) (nI (40 * b + a)) = fa 16 (40 * b + a) := ag_nI (by omega)
      have g2 : ag (ga 4) (nI (40 * b + a)) = ga 4 (40 * b + a) := ag_nI (by omega)
      refine ⟨fa 16 (40 * b + a), ?_, fa 16 (40 * b + a), 0, ?_, rfl, rfl, h'⟩
      · simp only [rmap_some, bnd_some, Sum.elim_inr, if_neg n10, squareAt_nI, ck_t ic, g1]
      · simp only [bnd_some, un2_mk, if_true, e, ck_t ic, g2, (R.2.1 _ (show 40 * b + a < 1200 by omega)).1]
    · rw [s1, s2]
      refine ⟨-1, ?_, -1, 0, ?_, rfl, rfl, h'⟩
      · simp only [rmap_some, bnd_some, Sum.elim_inr, if_true]
      · simp only [bnd_some, un2_mk, if_true, if_neg n10]
theorem o_plan (h : Inv9 fa fi ga gi) (x1 : Int32) : St_plan Inv9 fa fi ga gi x1 := by
  have h' := h
  obtain ⟨hr, hl, hs, hp, hw⟩ := h
  have no : fi 12 = 0 → gi 4 = 0 → St_plan Inv9 fa fi ga gi x1 := fun p1 p2 => by
    unfold St_plan X9_plan X10_plan X10_plan_b24
    rw [p1, p2, if_pos rfl, if_pos rfl]
    exact ⟨-1, rfl, -1, 0, rfl, rfl, h'⟩
  rcases hw with ⟨_, _, p1, _, _, p2⟩ | ⟨_, _, _, m, E, D, _, e2, R, _, ⟨p1, _, p2⟩ | ⟨p1, p2, e1, _, P, P1, P2, _⟩⟩
  · exact no p1 p2
  · exact no p1 p2
  · unfold St_plan X9_plan X10_plan X10_plan_b24
    rw [p1, p2, if_neg n10, if_neg n10, e1, e2]
    by_cases c : x1 < 0
    · rw [if_pos c, if_pos c]
      exact ⟨-1, rfl, -1, 0, rfl, rfl, h'⟩
    · rw [if_neg c, if_neg c]
      obtain ⟨k, hk, rfl⟩ := nI_of c
      have m60 := R.1
      by_cases d : k < m
      · rw [if_neg (nI_ge d (by omega)), if_pos (nI_lt d (by omega)), ck_t (ix_nI (show k < 60 by omega) (by decide)), ck_t (ix_nI (show k < 60 by omega) (by decide)), ag_nI (by omega), ag_nI (by omega), (P1 k d).1, (P2 k d).1]
        exact ⟨nI (P k), rfl, nI (P k), 0, rfl, rfl, h'⟩
      · rw [if_pos (nI_le (by omega) hk), if_neg (nI_nlt (by omega) hk)]
        exact ⟨-1, rfl, -1, 0, rfl, rfl, h'⟩
theorem o_swing (h : Inv9 fa fi ga gi) (x1 x2 : Int32) : St_swing Inv9 fa fi ga gi x1 x2 := by
  have h' := h
  obtain ⟨hr, hl, hs, hp, hw⟩ := h
  have no : fi 12 = 0 → gi 4 = 0 → St_swing Inv9 fa fi ga gi x1 x2 := fun p1 p2 => by
    unfold St_swing X9_swing X9_needPlan X10_swing X10_swing_b18
    rw [p1, p2, if_pos rfl, if_pos rfl, thr1]
    exact Or.inr (Or.inl ⟨rfl, 0, 1, ga 10, rfl, rfl, h'⟩)
  rcases hw with ⟨_, _, p1, _, _, p2⟩ | ⟨t1, t2, t3, m, E, D, t4, e2, R, K, ⟨p1, _, p2⟩ | ⟨p1, p2, e1, kn, P, P1, P2, P3⟩⟩
  · exact no p1 p2
  · exact no p1 p2
  · have m60 := R.1
    have hb := DB_of (fun f t hf ht => (R.2.2.2.2.2 f t hf ht).1)
    have hL : LenOK (fa 23) D m := fun f t hf ht => by
      rcases K f hf with z | ⟨_, z⟩
      · rw [kn f hf] at z; exact absurd z n10
      · exact z t ht
    have hT : TurOK (ga 9) D m := fun f t hf ht => (R.2.2.2.2.2 f t hf ht).2
    have bad : (x1 < 0 ∨ (¬ x1 < 0 ∧ x2 < x1) ∨ (¬ x1 < 0 ∧ ¬ x2 < x1 ∧ ¬ x2 < nI m)) → St_swing Inv9 fa fi ga gi x1 x2 := fun c => by
      unfold St_swing X9_swing X9_needPlan X10_swing X10_swing_b18 X10_swing_b43 X10_swing_b48
      rw [p1, p2, if_neg n10, if_neg n10, e1, e2]
      right; right
      refine ⟨?_, 0, 2, ga 10, ?_, rfl, h'⟩
      · rcases c with c | ⟨c, d⟩ | ⟨c, d, e⟩
        · simp only [rmap_some, bnd_some, Sum.elim_inr, if_pos c]
        · simp only [rmap_some, bnd_some, Sum.elim_inr, if_neg c, if_pos d]
        · simp only [rmap_some, bnd_some, Sum.elim_inr, if_neg c, if_neg d, if_neg e]
      · rcases c with c | ⟨c, d⟩ | ⟨c, d, e⟩
        · simp only [thr0, thr1, bnd_some, un2_mk, if_true, if_pos c, if_neg n10]
        · simp only [thr0, thr1, bnd_some, un2_mk, if_true, if_neg c, if_pos d, if_neg n10]
        · simp only [thr0, thr1, bnd_some, un2_mk, if_true, if_neg c, if_neg d, if_neg e, if_neg n10]
    by_cases c : x1 < 0
    · exact bad (Or.inl c)
    by_cases d : x2 < x1
    · exact bad (Or.inr (Or.inl ⟨c, d⟩))
    by_cases e : x2 < nI m
    · obtain ⟨i, hi, rfl⟩ := nI_of c
      have c2 : ¬ x2 < 0 := fun q => by
        rw [Int32.lt_iff_toInt_lt] at q d
        rw [ti_nI hi] at d
        have z : (0 : Int32).toInt = 0 := by decide
        omega
      obtain ⟨j, hj, rfl⟩ := nI_of c2
      have jm : j < m := (nI_ltI hj (by omega)).mp e
      have ij : i ≤ j := by
        rcases Nat.lt_or_ge j i with q | q
        · exact absurd (nI_lt q hi) d
        · exact q
      obtain ⟨pn', w1, w2⟩ := turnRound_ok m60 P1 ij jm
      obtain ⟨pl', y1, y2⟩ := turnRound_ok m60 P2 ij jm
      rw [← turnsRound_eq] at y1
      have S1 := (sum_ok hL hb m60 w2).1
      have S2 := sumR_ok hT hb m60 y2
      have O := orNone_ok (v := min (sP D (trn P i j) m) 1000000) (by omega)
      have ee : svR (min (sP D (trn P i j) m) 1000000) = svR (sP D (trn P i j) m) := by
        unfold svR
        by_cases q : sP D (trn P i j) m < 1000000
        · rw [Nat.min_eq_left (by omega)]
        · rw [Nat.min_eq_right (by omega), if_neg (by omega), if_neg q]
      rw [ee] at O
      left
      refine ⟨svR (sP D (trn P i j) m), pn', ?_, svR (sP D (trn P i j) m), 0, pl', ?_, rfl, rfl, hr, hl, hs, hp, Or.inr ⟨t1, t2, t3, m, E, D, t4, e2, R, K, Or.inr ⟨p1, p2, e1, kn, trn P i j, w2, y2, trn_RowD P3 jm⟩⟩⟩
      · unfold X9_swing X9_needPlan
        rw [p1, e1]
        simp only [if_neg n10, rmap_some, bnd_some, Sum.elim_inr, if_neg c, if_neg d, if_pos e, w1, S1, O]
      · unfold X10_swing X10_swing_b18 X10_swing_b48
        rw [p2, e2, if_neg n10]
        simp only [thr0, bnd_some, un2_mk, if_true, if_neg c, if_neg d, if_pos e, y1, S2]
    · exact bad (Or.inr (Or.inr ⟨c, d, e⟩))
end OPS9
