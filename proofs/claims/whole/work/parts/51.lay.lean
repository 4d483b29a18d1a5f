theorem cntI {p : Nat → Bool} {n : Nat} : nI (cnt p n) + 1 = nI (cnt p n + 1) := nI_1 _
theorem counts_ok (wh : Ar) (v : Int32) : X10_counts wh v = some (nI (cnt (fun s => decide (wh s = v)) 1200)) := by
  obtain ⟨r, h1, h2⟩ := whileV_up (body := fun st => X10_counts_L4 wh v st.1 st.2) 1200
    (fun n st => st.2 = nI n ∧ st.1 = nI (cnt (fun s => decide (wh s = v)) n)) (fun r => r = nI (cnt (fun s => decide (wh s = v)) 1200))
    (fun n st hn hs => by
      obtain ⟨f, i⟩ := st
      obtain ⟨rfl, rfl⟩ := hs
      left
      have a1 : ag wh (nI n) = wh n := ag_nI (by omega)
      refine ⟨(nI (cnt (fun s => decide (wh s = v)) (n + 1)), nI (n + 1)), ?_, rfl, rfl⟩
      show X10_counts_L4 wh v _ (nI n) = _
      unfold X10_counts_L4 X10_counts_b4_27
      by_cases c : wh n = v
      · simp only [if_neg (show ¬ (1200 : Int32) ≤ nI n from nI_ge hn (by decide)), ck_t (ix_nI hn (show 1200 < 2 ^ 31 by decide)), a1, if_pos c, bnd_some, bnd_none, rmap_some, nm_eq, Sum.elim_inl, Sum.elim_inr, un2_mk, un3_mk, un4_mk, un5_mk, un6_mk, un7_mk, un8_mk, un9_mk, un10_mk, un11_mk, un12_mk, nI_1, cnt, decide_eq_true c, if_true]
      · simp only [if_neg (show ¬ (1200 : Int32) ≤ nI n from nI_ge hn (by decide)), ck_t (ix_nI hn (show 1200 < 2 ^ 31 by decide)), a1, if_neg c, bnd_some, bnd_none, rmap_some, nm_eq, Sum.elim_inl, Sum.elim_inr, un2_mk, un3_mk, un4_mk, un5_mk, un6_mk, un7_mk, un8_mk, un9_mk, un10_mk, un11_mk, un12_mk, nI_1, cnt, decide_eq_false c, Int32.add_zero]
        rfl)
    (fun st hs => by
      obtain ⟨f, i⟩ := st
      obtain ⟨rfl, rfl⟩ := hs
      refine ⟨_, ?_, rfl⟩
      show X10_counts_L4 wh v _ (nI 1200) = _
      unfold X10_counts_L4
      rw [if_pos (show (1200 : Int32) ≤ nI 1200 from nI_le (a := 1200) (Nat.le_refl _) (by decide))]) 0 (0, 0) (by omega) ⟨rfl, rfl⟩
  unfold X10_counts
  rw [h1, h2]
  rfl
theorem isField_ok {n0 n1 n2 n3 : Int32} {x0 y0 x1 y1 x2 y2 x3 y3 cx cy cn : Ar} (h0 : IRing n0 x0 y0 0 cx cy cn) (h1 : IRing n1 x1 y1 1 cx cy cn) (h2 : IRing n2 x2 y2 2 cx cy cn) (h3 : IRing n3 x3 y3 3 cx cy cn) {s : Nat} (hs : s < 1200) :
    ∃ b : Int32, (b = 0 ∨ b = 1) ∧ X0_isField n0 n1 n2 n3 x0 y0 x1 y1 x2 y2 x3 y3 (nI (s % 40)) (nI (s / 40)) = some b ∧ ∀ wh, X10_lay_L40 cx cy cn wh (nI s) = some (.inl (upd wh s (if b = 0 then 0 else 2), nI (s + 1))) := by
  obtain ⟨b0, p0, q0, r0⟩ := ring_ok h0 (by omega) (show s % 40 < 40 by omega) (show s / 40 < 30 by omega)
  obtain ⟨b1, p1, q1, r1⟩ := ring_ok h1 (by omega) (show s % 40 < 40 by omega) (show s / 40 < 30 by omega)
  obtain ⟨b2, p2, q2, r2⟩ := ring_ok h2 (by omega) (show s % 40 < 40 by omega) (show s / 40 < 30 by omega)
  obtain ⟨b3, p3, q3, r3⟩ := ring_ok h3 (by omega) (show s % 40 < 40 by omega) (show s / 40 < 30 by omega)
  have z0 : X10_isIn cx cy cn 0 (nI (s % 40)) (nI (s / 40)) = some b0 := r0
  have z1 : X10_isIn cx cy cn 1 (nI (s % 40)) (nI (s / 40)) = some b1 := r1
  have z2 : X10_isIn cx cy cn 2 (nI (s % 40)) (nI (s / 40)) = some b2 := r2
  have z3 : X10_isIn cx cy cn 3 (nI (s % 40)) (nI (s / 40)) = some b3 := r3
  have n01 : ¬ (1 : Int32) = 0 := by decide
  have n20 : ¬ (2 : Int32) = 0 := by decide
  have n21 : ¬ (2 : Int32) = 1 := by decide
  have n30 : ¬ (3 : Int32) = 0 := by decide
  have n31 : ¬ (3 : Int32) = 1 := by decide
  have n32 : ¬ (3 : Int32) = 2 := by decide
  have l1 : X0_isField_L22 n0 n1 n2 n3 x0 y0 x1 y1 x2 y2 x3 y3 (nI (s % 40)) (nI (s / 40)) 1 = if b1 = 0 then some (.inl 2) else some (.inr (.inr ())) := by
    unfold X0_isField_L22
    rw [if_neg (show ¬ nI 4 ≤ 1 by decide), if_neg n01, if_pos rfl, q1]
    rfl
  have l2 : X0_isField_L22 n0 n1 n2 n3 x0 y0 x1 y1 x2 y2 x3 y3 (nI (s % 40)) (nI (s / 40)) 2 = if b2 = 0 then some (.inl 3) else some (.inr (.inr ())) := by
    unfold X0_isField_L22
    rw [if_neg (show ¬ nI 4 ≤ 2 by decide), if_neg n20, if_neg n21, if_pos rfl, q2]
    rfl
  have l3 : X0_isField_L22 n0 n1 n2 n3 x0 y0 x1 y1 x2 y2 x3 y3 (nI (s % 40)) (nI (s / 40)) 3 = if b3 = 0 then some (.inl 4) else some (.inr (.inr ())) := by
    unfold X0_isField_L22
    rw [if_neg (show ¬ nI 4 ≤ 3 by decide), if_neg n30, if_neg n31, if_neg n32, if_pos rfl, q3]
    rfl
  have l4 : X0_isField_L22 n0 n1 n2 n3 x0 y0 x1 y1 x2 y2 x3 y3 (nI (s % 40)) (nI (s / 40)) 4 = some (.inr (.inl ())) := by
    unfold X0_isField_L22
    rw [if_pos (show nI 4 ≤ 4 by decide)]
  have rf : ∀ wh v, X10_lay_b40_112 wh (nI s) (nI s) v = some (.inl (upd wh s v, nI (s + 1))) := by
    intro wh v
    unfold X10_lay_b40_112
    have a1 : au wh (nI s) v = upd wh s v := au_nI (by omega)
    simp only [ck_t (ix_nI hs (show 1200 < 2 ^ 31 by decide)), a1, bnd_some, bnd_none, rmap_some, nm_eq, Sum.elim_inl, Sum.elim_inr, un2_mk, un3_mk, un4_mk, un5_mk, un6_mk, un7_mk, un8_mk, un9_mk, un10_mk, un11_mk, un12_mk, nI_1]
  have rl : ∀ wh, X10_lay_L40 cx cy cn wh (nI s) = if b0 = 0 then some (.inl (upd wh s 0, nI (s + 1))) else if b1 = 0 then if b2 = 0 then if b3 = 0 then some (.inl (upd wh s 2, nI (s + 1))) else some (.inl (upd wh s 0, nI (s + 1))) else some (.inl (upd wh s 0, nI (s + 1))) else some (.inl (upd wh s 0, nI (s + 1))) := by
    intro wh
    unfold X10_lay_L40 X10_lay_b40_111
    simp only [if_neg (show ¬ (1200 : Int32) ≤ nI s from nI_ge hs (by decide)), rem40 (show s < 2 ^ 31 by omega), div40 (show s < 2 ^ 31 by omega), rem40' (show s < 2 ^ 31 by omega), bnd_some, bnd_none, rmap_some, nm_eq, Sum.elim_inl, Sum.elim_inr, un2_mk, un3_mk, un4_mk, un5_mk, un6_mk, un7_mk, un8_mk, un9_mk, un10_mk, un11_mk, un12_mk, z0, z1, z2, z3, rf]
  have fl : X0_isField n0 n1 n2 n3 x0 y0 x1 y1 x2 y2 x3 y3 (nI (s % 40)) (nI (s / 40)) = if b0 = 0 then some 0 else (bnd (whileV (fun st => X0_isField_L22 n0 n1 n2 n3 x0 y0 x1 y1 x2 y2 x3 y3 (nI (s % 40)) (nI (s / 40)) st) 1) <| (Sum.elim (fun (_ : Unit) => some 1) (fun (_ : Unit) => some 0))) := by
    unfold X0_isField
    rw [if_neg (show ¬ nI 4 < 1 by decide), q0]
    rfl
  by_cases c0 : b0 = 0
  · refine ⟨0, Or.inl rfl, by rw [fl, if_pos c0], fun wh => by rw [rl, if_pos c0, if_pos rfl]⟩
  by_cases c1 : b1 = 0
  · by_cases c2 : b2 = 0
    · by_cases c3 : b3 = 0
      · refine ⟨1, Or.inr rfl, ?_, fun wh => by rw [rl, if_neg c0, if_pos c1, if_pos c2, if_pos c3, if_neg n01]⟩
        rw [fl, if_neg c0, whileV_to (l1.trans (if_pos c1)) (whileV_to (l2.trans (if_pos c2)) (whileV_to (l3.trans (if_pos c3)) (whileV_end l4)))]
        rfl
      · refine ⟨0, Or.inl rfl, ?_, fun wh => by rw [rl, if_neg c0, if_pos c1, if_pos c2, if_neg c3, if_pos rfl]⟩
        rw [fl, if_neg c0, whileV_to (l1.trans (if_pos c1)) (whileV_to (l2.trans (if_pos c2)) (whileV_end (l3.trans (if_neg c3))))]
        rfl
    · refine ⟨0, Or.inl rfl, ?_, fun wh => by rw [rl, if_neg c0, if_pos c1, if_neg c2, if_pos rfl]⟩
      rw [fl, if_neg c0, whileV_to (l1.trans (if_pos c1)) (whileV_end (l2.trans (if_neg c2)))]
      rfl
  · refine ⟨0, Or.inl rfl, ?_, fun wh => by rw [rl, if_neg c0, if_neg c1, if_pos rfl]⟩
    rw [fl, if_neg c0, whileV_end (l1.trans (if_neg c1))]
    rfl
theorem field_ok {n0 n1 n2 n3 : Int32} {x0 y0 x1 y1 x2 y2 x3 y3 cx cy cn : Ar} (h0 : IRing n0 x0 y0 0 cx cy cn) (h1 : IRing n1 x1 y1 1 cx cy cn) (h2 : IRing n2 x2 y2 2 cx cy cn) (h3 : IRing n3 x3 y3 3 cx cy cn) (fc : Int32) (kd wh : Ar) :
    ∃ K : Ar, (∀ s, K s = 0 ∨ K s = 2) ∧ (∃ kd', X0_markField fc kd n0 n1 n2 n3 x0 y0 x1 y1 x2 y2 x3 y3 = some (nI (cnt (fun s => decide (¬ K s = 0)) 1200), kd') ∧ ∀ s, s < 1200 → kd' s = K s) ∧
      ∃ wh', whileV (fun st => X10_lay_L40 cx cy cn st.1 st.2) (wh, 0) = some wh' ∧ ∀ s, s < 1200 → wh' s = K s := by
  obtain ⟨K, hK⟩ : ∃ K : Ar, K = fun s => if (X0_isField n0 n1 n2 n3 x0 y0 x1 y1 x2 y2 x3 y3 (nI (s % 40)) (nI (s / 40))).getD 0 = 0 then 0 else 2 := ⟨_, rfl⟩
  have n20 : ¬ (2 : Int32) = 0 := by decide
  have hf : ∀ s, s < 1200 → ∃ b : Int32, X0_isField n0 n1 n2 n3 x0 y0 x1 y1 x2 y2 x3 y3 (nI (s % 40)) (nI (s / 40)) = some b ∧ K s = (if b = 0 then 0 else 2) ∧ ∀ wh, X10_lay_L40 cx cy cn wh (nI s) = some (.inl (upd wh s (K s), nI (s + 1))) := by
    intro s hs
    obtain ⟨b, e1, e2, e3⟩ := isField_ok h0 h1 h2 h3 hs
    have ek : K s = (if b = 0 then 0 else 2) := by rw [hK]; dsimp only; rw [e2]; rfl
    exact ⟨b, e2, ek, fun wh => by rw [e3, ek]⟩
  refine ⟨K, fun s => ?_, ?_, ?_⟩
  · rw [hK]; dsimp only; split
    · exact Or.inl rfl
    · exact Or.inr rfl
  · obtain ⟨r, e1, e2⟩ := whileV_up (body := fun st => X0_markField_L7 n0 n1 n2 n3 x0 y0 x1 y1 x2 y2 x3 y3 st.1 st.2.1 st.2.2) 1200
      (fun n st => st.2.2 = nI n ∧ st.1 = nI (cnt (fun s => decide (¬ K s = 0)) n) ∧ ∀ s, s < n → st.2.1 s = K s) (fun r => r.1 = nI (cnt (fun s => decide (¬ K s = 0)) 1200) ∧ ∀ s, s < 1200 → r.2 s = K s)
      (fun n st hn hs => by
        obtain ⟨f, k, i⟩ := st
        obtain ⟨rfl, rfl, q⟩ := hs
        dsimp only at q
        left
        obtain ⟨b, b1, b2, b3⟩ := hf n hn
        have a1 : ∀ x, au k (nI n) x = upd k n x := fun x => au_nI (by omega)
        have nx : ∀ s, s < n + 1 → upd k n (K n) s = K s := by
          intro s hs
          rw [upd_at]
          by_cases c : s = n
          · rw [if_pos c, c]
          · rw [if_neg c]; exact q s (by omega)
        refine ⟨(nI (cnt (fun s => decide (¬ K s = 0)) (n + 1)), upd k n (K n), nI (n + 1)), ?_, rfl, rfl, nx⟩
        show X0_markField_L7 n0 n1 n2 n3 x0 y0 x1 y1 x2 y2 x3 y3 _ k (nI n) = _
        unfold X0_markField_L7 X0_markField_b7_42 X0_markField_b7_57
        by_cases c : b = 0
        · rw [if_pos c] at b2
          simp only [if_neg (show ¬ (1200 : Int32) ≤ nI n from nI_ge hn (by decide)), rem40 (show n < 2 ^ 31 by omega), div40 (show n < 2 ^ 31 by omega), rem40' (show n < 2 ^ 31 by omega), b1, bnd_some, bnd_none, rmap_some, nm_eq, Sum.elim_inl, Sum.elim_inr, un2_mk, un3_mk, un4_mk, un5_mk, un6_mk, un7_mk, un8_mk, un9_mk, un10_mk, un11_mk, un12_mk, if_pos c, ck_t (ix_nI hn (show 1200 < 2 ^ 31 by decide)), a1, nI_1, b2, cnt]
          simp
        · rw [if_neg c] at b2
          simp only [if_neg (show ¬ (1200 : Int32) ≤ nI n from nI_ge hn (by decide)), rem40 (show n < 2 ^ 31 by omega), div40 (show n < 2 ^ 31 by omega), rem40' (show n < 2 ^ 31 by omega), b1, bnd_some, bnd_none, rmap_some, nm_eq, Sum.elim_inl, Sum.elim_inr, un2_mk, un3_mk, un4_mk, un5_mk, un6_mk, un7_mk, un8_mk, un9_mk, un10_mk, un11_mk, un12_mk, if_neg c, ck_t (ix_nI hn (show 1200 < 2 ^ 31 by decide)), a1, nI_1, b2, cnt, decide_eq_true n20, if_true])
      (fun st hs => by
        obtain ⟨f, k, i⟩ := st
        obtain ⟨rfl, rfl, q⟩ := hs
        refine ⟨(nI (cnt (fun s => decide (¬ K s = 0)) 1200), k), ?_, rfl, q⟩
        show X0_markField_L7 n0 n1 n2 n3 x0 y0 x1 y1 x2 y2 x3 y3 _ k (nI 1200) = _
        unfold X0_markField_L7
        rw [if_pos (show (1200 : Int32) ≤ nI 1200 from nI_le (a := 1200) (Nat.le_refl _) (by decide))]) 0 (0, kd, 0) (by omega) ⟨rfl, rfl, fun s hs => by omega⟩
    obtain ⟨r1, r2⟩ := r
    refine ⟨r2, ?_, e2.2⟩
    unfold X0_markField
    have e3 : r1 = _ := e2.1
    rw [e1, bnd_some, un2_mk, e3]
  · obtain ⟨r, e1, e2⟩ := whileV_up (body := fun st => X10_lay_L40 cx cy cn st.1 st.2) 1200
      (fun n st => st.2 = nI n ∧ ∀ s, s < n → st.1 s = K s) (fun r => ∀ s, s < 1200 → r s = K s)
      (fun n st hn hs => by
        obtain ⟨k, i⟩ := st
        obtain ⟨rfl, q⟩ := hs
        dsimp only at q
        left
        obtain ⟨b, b1, b2, b3⟩ := hf n hn
        refine ⟨(upd k n (K n), nI (n + 1)), b3 k, rfl, fun s hs => ?_⟩
        show upd k n (K n) s = _
        rw [upd_at]
        by_cases c : s = n
        · rw [if_pos c, c]
        · rw [if_neg c]; exact q s (by omega))
      (fun st hs => by
        obtain ⟨k, i⟩ := st
        obtain ⟨rfl, q⟩ := hs
        refine ⟨_, ?_, q⟩
        show X10_lay_L40 cx cy cn k (nI 1200) = _
        unfold X10_lay_L40
        rw [if_pos (show (1200 : Int32) ≤ nI 1200 from nI_le (a := 1200) (Nat.le_refl _) (by decide))]) 0 (wh, 0) (by omega) ⟨rfl, fun s hs => by omega⟩
    exact ⟨r, e1, e2⟩
theorem nearOut_ok {wh : Ar} {h x y : Nat} (hh : h ≤ 5) (hx : x < 40) (hy : y < 30) :
    (X10_isNearOut (nI h) wh (nI x) (nI y) = some 1 ∧ nearO (fun t => wh t = 0) h x y) ∨ (X10_isNearOut (nI h) wh (nI x) (nI y) = some 0 ∧ ¬ nearO (fun t => wh t = 0) h x y) := by
  -- a line
  have line : ∀ j : Int, -100 ≤ j → j ≤ 100 → ∃ r, whileV (fun st => X10_isNearOut_L25 (nI h) wh (nI x) (nI y) (iI j) st) (iI ((x : Int) - h)) = some r ∧
      ((r = .inl () ∧ ∀ i : Int, (x : Int) - h ≤ i → i ≤ x + h → ¬ oAt (fun t => wh t = 0) i j) ∨ (r = .inr () ∧ ∃ i : Int, (x : Int) - h ≤ i ∧ i ≤ x + h ∧ oAt (fun t => wh t = 0) i j)) := by
    intro j hj1 hj2
    refine whileV_up (body := fun st => X10_isNearOut_L25 (nI h) wh (nI x) (nI y) (iI j) st) (2 * h + 1) (fun n st => st = iI ((x : Int) - h + n) ∧ ∀ i : Int, (x : Int) - h ≤ i → i < x - h + n → ¬ oAt (fun t => wh t = 0) i j) _ (fun n st hn hs => ?_) (fun st hs => ?_) 0 _ (by omega) ⟨by rw [show ((x : Int) - h + ((0 : Nat) : Int)) = (x : Int) - h by omega], fun i a b => by omega⟩
    · obtain ⟨rfl, q⟩ := hs
      have c1 : ¬ (nI x + nI h) < iI ((x : Int) - h + n) := by
        rw [nI_add, ← iI_nat]
        intro q
        have := (iI_lt (by omega) (by omega) (by omega) (by omega)).mp q
        omega
      have ns := (isSq_iI (x := (x : Int) - h + n) (y := j) (by omega) (by omega) (by omega) (by omega)).2
      by_cases c : inL ((x : Int) - h + n) j
      · obtain ⟨e1, e2⟩ := sq_iI c
        rw [if_pos c] at ns
        have a1 : ag wh (nI (40 * j + ((x : Int) - h + n)).toNat) = wh (40 * j + ((x : Int) - h + n)).toNat := ag_nI (by omega)
        by_cases z : wh (40 * j + ((x : Int) - h + n)).toNat = 0
        · right
          refine ⟨.inr (), ?_, Or.inr ⟨rfl, (x : Int) - h + n, by omega, by omega, fun _ => z⟩⟩
          show X10_isNearOut_L25 (nI h) wh (nI x) (nI y) (iI j) (iI ((x : Int) - h + n)) = _
          unfold X10_isNearOut_L25
          simp only [if_neg c1, ns, bnd_some, bnd_none, rmap_some, nm_eq, Sum.elim_inl, Sum.elim_inr, un2_mk, un3_mk, un4_mk, un5_mk, un6_mk, un7_mk, un8_mk, un9_mk, un10_mk, un11_mk, un12_mk, if_true, e1, ck_t (ix_nI e2 (show 1200 < 2 ^ 31 by decide)), a1, if_pos z]
        · left
          refine ⟨iI ((x : Int) - h + ((n + 1 : Nat) : Int)), ?_, rfl, fun i i1 i2 => ?_⟩
          · show X10_isNearOut_L25 (nI h) wh (nI x) (nI y) (iI j) (iI ((x : Int) - h + n)) = _
            unfold X10_isNearOut_L25
            simp only [if_neg c1, ns, bnd_some, bnd_none, rmap_some, nm_eq, Sum.elim_inl, Sum.elim_inr, un2_mk, un3_mk, un4_mk, un5_mk, un6_mk, un7_mk, un8_mk, un9_mk, un10_mk, un11_mk, un12_mk, if_true, e1, ck_t (ix_nI e2 (show 1200 < 2 ^ 31 by decide)), a1, if_neg z]
            rw [iI_1, iI_add, show ((x : Int) - h + ((n + 1 : Nat) : Int)) = (x : Int) - h + n + 1 by omega]
          · by_cases e : i = (x : Int) - h + n
            · rw [e]; exact fun o => z (o c)
            · exact q i i1 (by omega)
      · right
        rw [if_neg c] at ns
        refine ⟨.inr (), ?_, Or.inr ⟨rfl, (x : Int) - h + n, by omega, by omega, fun w => absurd w c⟩⟩
        show X10_isNearOut_L25 (nI h) wh (nI x) (nI y) (iI j) (iI ((x : Int) - h + n)) = _
        unfold X10_isNearOut_L25
        simp only [if_neg c1, ns, bnd_some, bnd_none, rmap_some, nm_eq, Sum.elim_inl, Sum.elim_inr, un2_mk, un3_mk, un4_mk, un5_mk, un6_mk, un7_mk, un8_mk, un9_mk, un10_mk, un11_mk, un12_mk, if_neg (show ¬ (1 : Int32) = 0 by decide)]
    · obtain ⟨rfl, q⟩ := hs
      refine ⟨.inl (), ?_, Or.inl ⟨rfl, fun i i1 i2 => q i i1 (by omega)⟩⟩
      show X10_isNearOut_L25 (nI h) wh (nI x) (nI y) (iI j) (iI ((x : Int) - h + ((2 * h + 1 : Nat) : Int))) = _
      unfold X10_isNearOut_L25
      rw [if_pos]
      rw [nI_add, ← iI_nat]
      exact (iI_lt (by omega) (by omega) (by omega) (by omega)).mpr (by omega)
  obtain ⟨r, w1, w2⟩ : ∃ r, whileV (fun st => X10_isNearOut_L7 (nI h) wh (nI x) (nI y) st) (iI ((y : Int) - h)) = some r ∧
      ((r = .inl () ∧ ∀ j : Int, (y : Int) - h ≤ j → j ≤ y + h → ∀ i : Int, (x : Int) - h ≤ i → i ≤ x + h → ¬ oAt (fun t => wh t = 0) i j) ∨ (r = .inr () ∧ nearO (fun t => wh t = 0) h x y)) := by
    refine whileV_up (body := fun st => X10_isNearOut_L7 (nI h) wh (nI x) (nI y) st) (2 * h + 1) (fun n st => st = iI ((y : Int) - h + n) ∧ ∀ j : Int, (y : Int) - h ≤ j → j < y - h + n → ∀ i : Int, (x : Int) - h ≤ i → i ≤ x + h → ¬ oAt (fun t => wh t = 0) i j) _ (fun n st hn hs => ?_) (fun st hs => ?_) 0 _ (by omega) ⟨by rw [show ((y : Int) - h + ((0 : Nat) : Int)) = (y : Int) - h by omega], fun i a b => by omega⟩
    · obtain ⟨rfl, q⟩ := hs
      have c1 : ¬ (nI y + nI h) < iI ((y : Int) - h + n) := by
        rw [nI_add, ← iI_nat]
        intro q
        have := (iI_lt (by omega) (by omega) (by omega) (by omega)).mp q
        omega
      obtain ⟨r, v1, v2⟩ := line ((y : Int) - h + n) (by omega) (by omega)
      have ex : nI x - nI h = iI ((x : Int) - h) := by rw [← iI_nat, ← iI_nat, iI_sub]
      rcases v2 with ⟨rfl, v2⟩ | ⟨rfl, i, i1, i2, i3⟩
      · left
        refine ⟨iI ((y : Int) - h + ((n + 1 : Nat) : Int)), ?_, rfl, fun j j1 j2 => ?_⟩
        · show X10_isNearOut_L7 (nI h) wh (nI x) (nI y) (iI ((y : Int) - h + n)) = _
          unfold X10_isNearOut_L7
          simp only [if_neg c1, ex, bnd_some, bnd_none, rmap_some, nm_eq, Sum.elim_inl, Sum.elim_inr, un2_mk, un3_mk, un4_mk, un5_mk, un6_mk, un7_mk, un8_mk, un9_mk, un10_mk, un11_mk, un12_mk, v1]
          rw [iI_1, iI_add, show ((y : Int) - h + ((n + 1 : Nat) : Int)) = (y : Int) - h + n + 1 by omega]
        · by_cases e : j = (y : Int) - h + n
          · rw [e]; exact v2
          · exact q j j1 (by omega)
      · right
        refine ⟨.inr (), ?_, Or.inr ⟨rfl, i, _, i1, i2, by omega, by omega, i3⟩⟩
        show X10_isNearOut_L7 (nI h) wh (nI x) (nI y) (iI ((y : Int) - h + n)) = _
        unfold X10_isNearOut_L7
        simp only [if_neg c1, ex, bnd_some, bnd_none, rmap_some, nm_eq, Sum.elim_inl, Sum.elim_inr, un2_mk, un3_mk, un4_mk, un5_mk, un6_mk, un7_mk, un8_mk, un9_mk, un10_mk, un11_mk, un12_mk, v1]
    · obtain ⟨rfl, q⟩ := hs
      refine ⟨.inl (), ?_, Or.inl ⟨rfl, fun j j1 j2 => q j j1 (by omega)⟩⟩
      show X10_isNearOut_L7 (nI h) wh (nI x) (nI y) (iI ((y : Int) - h + ((2 * h + 1 : Nat) : Int))) = _
      unfold X10_isNearOut_L7
      rw [if_pos]
      rw [nI_add, ← iI_nat]
      exact (iI_lt (by omega) (by omega) (by omega) (by omega)).mpr (by omega)
  have ey : nI y - nI h = iI ((y : Int) - h) := by rw [← iI_nat, ← iI_nat, iI_sub]
  rcases w2 with ⟨rfl, w2⟩ | ⟨rfl, w2⟩
  · right
    refine ⟨?_, fun ⟨i, j, i1, i2, j1, j2, o⟩ => w2 j j1 j2 i i1 i2 o⟩
    unfold X10_isNearOut
    simp only [ey, bnd_some, bnd_none, rmap_some, nm_eq, Sum.elim_inl, Sum.elim_inr, un2_mk, un3_mk, un4_mk, un5_mk, un6_mk, un7_mk, un8_mk, un9_mk, un10_mk, un11_mk, un12_mk, w1]
  · left
    refine ⟨?_, w2⟩
    unfold X10_isNearOut
    simp only [ey, bnd_some, bnd_none, rmap_some, nm_eq, Sum.elim_inl, Sum.elim_inr, un2_mk, un3_mk, un4_mk, un5_mk, un6_mk, un7_mk, un8_mk, un9_mk, un10_mk, un11_mk, un12_mk, w1]
/-- what lay makes of the field -/
theorem lay_ok {n0 n1 n2 n3 : Int32} {x0 y0 x1 y1 x2 y2 x3 y3 cx cy cn : Ar} (h0 : IRing n0 x0 y0 0 cx cy cn) (h1 : IRing n1 x1 y1 1 cx cy cn) (h2 : IRing n2 x2 y2 2 cx cy cn) (h3 : IRing n3 x3 y3 3 cx cy cn) (ld hd fc ic : Int32) (dep kd nr wh : Ar) {h : Nat} (hh : h ≤ 5) :
    ∃ (fc' ic' : Int32) (dep' kd' nr' wh' wh1 : Ar), X0_layOut ld hd fc ic dep kd nr n0 n1 n2 n3 x0 y0 x1 y1 x2 y2 x3 y3 (nI h) = some (1, nI h, fc', ic', dep', kd', nr') ∧
      whileV (fun st => X10_lay_L40 cx cy cn st.1 st.2) (wh, 0) = some wh1 ∧ whileV (fun st => X10_lay_L121 (nI h) st.1 st.2) (wh1, 0) = some wh' ∧ X10_counts wh' 0 = some (1200 - fc') ∧ LandOK (nI h) fc' ic' kd' nr' (nI h) wh' := by
  obtain ⟨K, kz, ⟨kd1, a1, a2⟩, wh1, b1, b2⟩ := field_ok h0 h1 h2 h3 fc kd wh
  obtain ⟨nr', c1, c2⟩ := nears_ok kd1 nr
  obtain ⟨dep', d1, e, d2⟩ := sound_ok dep kd1
  have n20 : ¬ (2 : Int32) = 0 := by decide
  have n12 : ¬ (1 : Int32) = 2 := by decide
  have n10 : ¬ (1 : Int32) = 0 := by decide
  obtain ⟨M, hM⟩ : ∃ M : Ar, M = fun s => if K s = 0 then 0 else if e s ≤ h then 1 else 2 := ⟨_, rfl⟩
  have mz : ∀ s, K s = 0 → M s = 0 := by intro s z; rw [hM]; dsimp only; rw [if_pos z]
  have m1 : ∀ s, ¬ K s = 0 → e s ≤ h → M s = 1 := by intro s z y; rw [hM]; dsimp only; rw [if_neg z, if_pos y]
  have m2 : ∀ s, ¬ K s = 0 → ¬ e s ≤ h → M s = 2 := by intro s z y; rw [hM]; dsimp only; rw [if_neg z, if_neg y]
  have mk : ∀ s, (M s = 0 ↔ K s = 0) := by
    intro s
    by_cases z : K s = 0
    · exact ⟨fun _ => z, fun _ => mz s z⟩
    · refine ⟨fun q => ?_, fun q => absurd q z⟩
      by_cases y : e s ≤ h
      · rw [m1 s z y] at q; exact absurd q n10
      · rw [m2 s z y] at q; exact absurd q n20
  -- the class marks the headland
  obtain ⟨⟨ic', kd'⟩, f1, f2, f3⟩ := whileV_up (body := fun st => X0_markHead_L7 (nI h) dep' st.1 st.2.1 st.2.2) 1200
    (fun n st => st.2.2 = nI n ∧ st.1 = nI (cnt (fun s => decide (M s = 2)) n) ∧ ∀ s, s < 1200 → st.2.1 s = if s < n then M s else K s) (fun r => r.1 = nI (cnt (fun s => decide (M s = 2)) 1200) ∧ ∀ s, s < 1200 → r.2 s = M s)
    (fun n st hn hs => by
      obtain ⟨c, k, i⟩ := st
      obtain ⟨rfl, rfl, q⟩ := hs
      dsimp only at q
      left
      have kn : ag k (nI n) = K n := by rw [ag_nI (by omega), q n hn, if_neg (by omega)]
      have dn : ag dep' (nI n) = nI (e n) := by rw [ag_nI (by omega), (d2 n hn).1]
      have en := (d2 n hn).2.1
      have au1 : ∀ x, au k (nI n) x = upd k n x := fun x => au_nI (by omega)
      have same : M n = K n → ∀ s, s < 1200 → k s = if s < n + 1 then M s else K s := by
        intro em s hs
        rw [q s hs]
        by_cases c : s = n
        · subst c
          rw [if_neg (by omega), if_pos (by omega), em]
        · by_cases c2 : s < n
          · rw [if_pos c2, if_pos (by omega)]
          · rw [if_neg c2, if_neg (by omega)]
      by_cases z : K n = 0
      · refine ⟨(nI (cnt (fun s => decide (M s = 2)) (n + 1)), k, nI (n + 1)), ?_, rfl, rfl, same (by rw [mz n z, z])⟩
        show X0_markHead_L7 (nI h) dep' _ k (nI n) = _
        unfold X0_markHead_L7 X0_markHead_b7_46 X0_markHead_b7_65
        simp only [if_neg (show ¬ (1200 : Int32) ≤ nI n from nI_ge hn (by decide)), ck_t (ix_nI hn (show 1200 < 2 ^ 31 by decide)), kn, if_pos z, bnd_some, bnd_none, rmap_some, nm_eq, Sum.elim_inl, Sum.elim_inr, un2_mk, un3_mk, un4_mk, un5_mk, un6_mk, un7_mk, un8_mk, un9_mk, un10_mk, un11_mk, un12_mk, nI_1, cnt, mz n z, decide_eq_false (show ¬ (0 : Int32) = 2 by decide)]
        rfl
      · by_cases y : e n ≤ h
        · refine ⟨(nI (cnt (fun s => decide (M s = 2)) (n + 1)), upd k n 1, nI (n + 1)), ?_, rfl, rfl, fun s hs => ?_⟩
          · show X0_markHead_L7 (nI h) dep' _ k (nI n) = _
            unfold X0_markHead_L7 X0_markHead_b7_46 X0_markHead_b7_65
            simp only [if_neg (show ¬ (1200 : Int32) ≤ nI n from nI_ge hn (by decide)), ck_t (ix_nI hn (show 1200 < 2 ^ 31 by decide)), kn, if_neg z, dn, if_neg (nI_nlt y (show h < 2 ^ 31 by omega)), au1, bnd_some, bnd_none, rmap_some, nm_eq, Sum.elim_inl, Sum.elim_inr, un2_mk, un3_mk, un4_mk, un5_mk, un6_mk, un7_mk, un8_mk, un9_mk, un10_mk, un11_mk, un12_mk, nI_1, cnt, m1 n z y, decide_eq_false n12]
            rfl
          · show upd k n 1 s = _
            rw [upd_at]
            by_cases c : s = n
            · rw [if_pos c, c, if_pos (by omega), m1 n z y]
            · rw [if_neg c, q s hs]
              by_cases c2 : s < n
              · rw [if_pos c2, if_pos (by omega)]
              · rw [if_neg c2, if_neg (by omega)]
        · refine ⟨(nI (cnt (fun s => decide (M s = 2)) (n + 1)), k, nI (n + 1)), ?_, rfl, rfl, same (by rw [m2 n z y]; rcases kz n with q | q; exact absurd q z; exact q.symm)⟩
          show X0_markHead_L7 (nI h) dep' _ k (nI n) = _
          unfold X0_markHead_L7 X0_markHead_b7_46 X0_markHead_b7_65
          simp only [if_neg (show ¬ (1200 : Int32) ≤ nI n from nI_ge hn (by decide)), ck_t (ix_nI hn (show 1200 < 2 ^ 31 by decide)), kn, if_neg z, dn, if_pos (nI_lt (show h < e n by omega) (by omega)), au1, bnd_some, bnd_none, rmap_some, nm_eq, Sum.elim_inl, Sum.elim_inr, un2_mk, un3_mk, un4_mk, un5_mk, un6_mk, un7_mk, un8_mk, un9_mk, un10_mk, un11_mk, un12_mk, nI_1, cnt, m2 n z y, decide_true, if_true])
    (fun st hs => by
      obtain ⟨c, k, i⟩ := st
      obtain ⟨rfl, rfl, q⟩ := hs
      dsimp only at q
      refine ⟨(nI (cnt (fun s => decide (M s = 2)) 1200), k), ?_, rfl, fun s hs => by show k s = M s; rw [q s hs, if_pos hs]⟩
      show X0_markHead_L7 (nI h) dep' _ k (nI 1200) = _
      unfold X0_markHead_L7
      rw [if_pos (show (1200 : Int32) ≤ nI 1200 from nI_le (a := 1200) (Nat.le_refl _) (by decide))]) 0 (0, kd1, 0) (by omega) ⟨rfl, rfl, fun s hs => by rw [if_neg (by omega)]; exact a2 s hs⟩
  -- and the reference
  obtain ⟨wh', g1, g2⟩ := whileV_up (body := fun st => X10_lay_L121 (nI h) st.1 st.2) 1200
    (fun n st => st.2 = nI n ∧ ∀ s, s < 1200 → st.1 s = if s < n then M s else K s) (fun r => ∀ s, s < 1200 → r s = M s)
    (fun n st hn hs => by
      obtain ⟨k, i⟩ := st
      obtain ⟨rfl, q⟩ := hs
      dsimp only at q
      left
      have kn : ag k (nI n) = K n := by rw [ag_nI (by omega), q n hn, if_neg (by omega)]
      have au1 : ∀ x, au k (nI n) x = upd k n x := fun x => au_nI (by omega)
      have oeq : ∀ x y, oAt (fun t => k t = 0) x y ↔ oAt (fun t => kd1 t = 0) x y := by
        intro x y
        unfold oAt
        have : ∀ c : inL x y, (k (40 * y + x).toNat = 0 ↔ kd1 (40 * y + x).toNat = 0) := by
          intro c
          have hl := (cX_of c).2.2
          rw [q _ hl, a2 _ hl]
          by_cases c2 : (40 * y + x).toNat < n
          · rw [if_pos c2]; exact mk _
          · rw [if_neg c2]
        exact ⟨fun w c => (this c).mp (w c), fun w c => (this c).mpr (w c)⟩
      have neq : nearO (fun t => k t = 0) h ((n % 40 : Nat) : Int) ((n / 40 : Nat) : Int) ↔ e n ≤ h := by
        rw [(d2 n hn).2.2 h]
        exact ⟨fun ⟨i, j, i1, i2, i3, i4, i5⟩ => ⟨i, j, i1, i2, i3, i4, (oeq i j).mp i5⟩, fun ⟨i, j, i1, i2, i3, i4, i5⟩ => ⟨i, j, i1, i2, i3, i4, (oeq i j).mpr i5⟩⟩
      have same : M n = K n → ∀ s, s < 1200 → k s = if s < n + 1 then M s else K s := by
        intro em s hs
        rw [q s hs]
        by_cases c : s = n
        · subst c
          rw [if_neg (by omega), if_pos (by omega), em]
        · by_cases c2 : s < n
          · rw [if_pos c2, if_pos (by omega)]
          · rw [if_neg c2, if_neg (by omega)]
      by_cases z : K n = 0
      · refine ⟨(k, nI (n + 1)), ?_, rfl, same (by rw [mz n z, z])⟩
        show X10_lay_L121 (nI h) k (nI n) = _
        unfold X10_lay_L121 X10_lay_b121_160
        simp only [if_neg (show ¬ (1200 : Int32) ≤ nI n from nI_ge hn (by decide)), ck_t (ix_nI hn (show 1200 < 2 ^ 31 by decide)), kn, z, if_neg (show ¬ (0 : Int32) = 2 by decide), bnd_some, bnd_none, rmap_some, nm_eq, Sum.elim_inl, Sum.elim_inr, un2_mk, un3_mk, un4_mk, un5_mk, un6_mk, un7_mk, un8_mk, un9_mk, un10_mk, un11_mk, un12_mk, nI_1]
      · have k2 : K n = 2 := by rcases kz n with q | q; exact absurd q z; exact q
        rcases nearOut_ok (wh := k) (h := h) (x := n % 40) (y := n / 40) hh (by omega) (by omega) with ⟨w1, w2⟩ | ⟨w1, w2⟩
        · have y := neq.mp w2
          refine ⟨(upd k n 1, nI (n + 1)), ?_, rfl, fun s hs => ?_⟩
          · show X10_lay_L121 (nI h) k (nI n) = _
            unfold X10_lay_L121 X10_lay_b121_160
            simp only [if_neg (show ¬ (1200 : Int32) ≤ nI n from nI_ge hn (by decide)), ck_t (ix_nI hn (show 1200 < 2 ^ 31 by decide)), kn, k2, if_true, rem40 (show n < 2 ^ 31 by omega), div40 (show n < 2 ^ 31 by omega), rem40' (show n < 2 ^ 31 by omega), w1, bnd_some, bnd_none, rmap_some, nm_eq, Sum.elim_inl, Sum.elim_inr, un2_mk, un3_mk, un4_mk, un5_mk, un6_mk, un7_mk, un8_mk, un9_mk, un10_mk, un11_mk, un12_mk, if_neg n10, au1, nI_1]
          · show upd k n 1 s = _
            rw [upd_at]
            by_cases c : s = n
            · rw [if_pos c, c, if_pos (by omega), m1 n z y]
            · rw [if_neg c, q s hs]
              by_cases c2 : s < n
              · rw [if_pos c2, if_pos (by omega)]
              · rw [if_neg c2, if_neg (by omega)]
        · have y := fun q => w2 (neq.mpr q)
          refine ⟨(k, nI (n + 1)), ?_, rfl, same (by rw [m2 n z y, k2])⟩
          show X10_lay_L121 (nI h) k (nI n) = _
          unfold X10_lay_L121 X10_lay_b121_160
          simp only [if_neg (show ¬ (1200 : Int32) ≤ nI n from nI_ge hn (by decide)), ck_t (ix_nI hn (show 1200 < 2 ^ 31 by decide)), kn, k2, if_true, rem40 (show n < 2 ^ 31 by omega), div40 (show n < 2 ^ 31 by omega), rem40' (show n < 2 ^ 31 by omega), w1, bnd_some, bnd_none, rmap_some, nm_eq, Sum.elim_inl, Sum.elim_inr, un2_mk, un3_mk, un4_mk, un5_mk, un6_mk, un7_mk, un8_mk, un9_mk, un10_mk, un11_mk, un12_mk, nI_1])
    (fun st hs => by
      obtain ⟨k, i⟩ := st
      obtain ⟨rfl, q⟩ := hs
      dsimp only at q
      refine ⟨k, ?_, fun s hs => by rw [q s hs, if_pos hs]⟩
      show X10_lay_L121 (nI h) k (nI 1200) = _
      unfold X10_lay_L121
      rw [if_pos (show (1200 : Int32) ≤ nI 1200 from nI_le (a := 1200) (Nat.le_refl _) (by decide))]) 0 (wh1, 0) (by omega) ⟨rfl, fun s hs => by rw [if_neg (by omega)]; exact b2 s hs⟩
  have f2' : ic' = nI (cnt (fun s => decide (M s = 2)) 1200) := f2
  have f3' : ∀ s, s < 1200 → kd' s = M s := f3
  have ck : cnt (fun s => decide (¬ K s = 0)) 1200 = cnt (fun s => decide (¬ kd' s = 0)) 1200 := cnt_congr (fun s hs => by
    rw [f3' s hs]
    exact decide_eq_decide.mpr (not_congr (mk s).symm))
  refine ⟨nI (cnt (fun s => decide (¬ K s = 0)) 1200), ic', dep', kd', nr', wh', wh1, ?_, b1, g1, ?_, ⟨h, hh, rfl, rfl⟩, fun s hs => ⟨by rw [f3' s hs, g2 s hs], ?_⟩, ?_, by rw [ck], ?_⟩
  · unfold X0_layOut X0_markHead
    simp only [a1, bnd_some, bnd_none, rmap_some, nm_eq, Sum.elim_inl, Sum.elim_inr, un2_mk, un3_mk, un4_mk, un5_mk, un6_mk, un7_mk, un8_mk, un9_mk, un10_mk, un11_mk, un12_mk, c1, d1, f1]
  · rw [counts_ok]
    have s1 := cnt_not (fun s => decide (¬ K s = 0)) 1200
    have s2 : cnt (fun s => decide (wh' s = 0)) 1200 = cnt (fun s => !decide (¬ K s = 0)) 1200 := cnt_congr (fun s hs => by
      rw [g2 s hs]
      by_cases z : K s = 0
      · rw [decide_eq_true ((mk s).mpr z), decide_eq_false (fun q => q z)]; rfl
      · rw [decide_eq_false (fun q => z ((mk s).mp q)), decide_eq_true z]; rfl)
    rw [s2, show (1200 : Int32) = nI 1200 from rfl, pk_sub (by omega)]
    rw [show 1200 - cnt (fun s => decide (¬ K s = 0)) 1200 = cnt (fun s => !decide (¬ K s = 0)) 1200 by omega]
  · rw [f3' s hs]
    by_cases z : K s = 0
    · exact Or.inl (mz s z)
    · by_cases y : e s ≤ h
      · exact Or.inr (Or.inl (m1 s z y))
      · exact Or.inr (Or.inr (m2 s z y))
  · intro s hs
    obtain ⟨b, w1, w2, w3⟩ := c2 s hs
    refine ⟨b, w1, w2, fun k hk => ?_⟩
    rw [w3 k hk]
    constructor
    · intro ⟨t, t1, t2⟩
      have tl := (stp_at hs t1).1
      exact ⟨t, t1, fun q => t2 (by rw [a2 t tl]; rw [f3' t tl] at q; exact (mk t).mp q)⟩
    · intro ⟨t, t1, t2⟩
      have tl := (stp_at hs t1).1
      exact ⟨t, t1, fun q => t2 (by rw [f3' t tl]; rw [a2 t tl] at q; exact (mk t).mpr q)⟩
  · rw [f2']
    exact congrArg nI (cnt_congr (fun s hs => by rw [f3' s hs]))
