/-! strips and alongs -/
def sml (x : Int32) : Prop := -1242 ≤ x.toInt ∧ x.toInt ≤ 1242
def kO (x : Int32) : Nat := (x.toInt + 1242).toNat
theorem kO_nI {x : Int32} (h : sml x) : x + 1242 = nI (kO x) ∧ kO x ≤ 2484 := by
  unfold sml at h
  unfold kO
  refine ⟨?_, by omega⟩
  rw [← iI_nn (by omega), ← iI_add, ← iI_of]
  rfl
theorem kO_lt {x y : Int32} (hx : sml x) (hy : sml y) : kO x < kO y ↔ x < y := by
  unfold sml at hx hy
  unfold kO
  rw [Int32.lt_iff_toInt_lt]
  omega
theorem kO_eq {x y : Int32} (hx : sml x) (hy : sml y) : kO x = kO y ↔ x = y := by
  unfold sml at hx hy
  unfold kO
  rw [← Int32.toInt_inj]
  omega
def uV (s : Nat) : Int32 := 2 * nI (s % 40) + 1
def vV (s : Nat) : Int32 := 2 * nI (s / 40) + 1
def stV (a b w : Int32) (s : Nat) : Int32 := flo (a * vV s - b * uV s) w
def alV (a b : Int32) (s : Nat) : Int32 := a * uV s + b * vV s
theorem tilt {a b : Int32} (h : slOK a b) : -9 ≤ a.toInt ∧ a.toInt ≤ 9 ∧ -9 ≤ b.toInt ∧ b.toInt ≤ 9 := by
  obtain ⟨h1, h2, h3, h4, _⟩ := h
  rw [Int32.lt_iff_toInt_lt] at h1 h2 h3 h4
  have e1 : (-9 : Int32).toInt = -9 := by decide
  have e2 : (9 : Int32).toInt = 9 := by decide
  omega
theorem uV_i (s : Nat) : 1 ≤ (uV s).toInt ∧ (uV s).toInt ≤ 79 := by
  unfold uV
  rw [ti_add (ti_mul (show (2 : Int32).toInt = 2 by decide) (ti_nI (show s % 40 < 2 ^ 31 by omega)) (by omega) (by omega)) (show (1 : Int32).toInt = 1 by decide) (by omega) (by omega)]
  omega
theorem vV_i {s : Nat} (h : s < 1200) : 1 ≤ (vV s).toInt ∧ (vV s).toInt ≤ 59 := by
  unfold vV
  rw [ti_add (ti_mul (show (2 : Int32).toInt = 2 by decide) (ti_nI (show s / 40 < 2 ^ 31 by omega)) (by omega) (by omega)) (show (1 : Int32).toInt = 1 by decide) (by omega) (by omega)]
  omega
theorem alV_sml {a b : Int32} (h : slOK a b) {s : Nat} (hs : s < 1200) : sml (alV a b s) := by
  have t := tilt h
  have u := uV_i s
  have v := vV_i hs
  have m1 := mul_bd (a := a.toInt) (b := (uV s).toInt) (A := 9) (B := 79) (by omega) (by omega) (by omega) (by omega)
  have m2 := mul_bd (a := b.toInt) (b := (vV s).toInt) (A := 9) (B := 59) (by omega) (by omega) (by omega) (by omega)
  unfold sml alV
  rw [ti_add (ti_mul rfl rfl (by omega) (by omega)) (ti_mul rfl rfl (by omega) (by omega)) (by omega) (by omega)]
  omega
theorem flo_sml {x w : Int32} (hx : sml x) (hw : 1 ≤ w.toInt) : sml (flo x w) := by
  unfold sml at hx
  have q : (x / w).toInt = x.toInt.tdiv w.toInt := by
    refine Int32.toInt_div_of_ne_left x w (fun e => ?_)
    rw [e] at hx
    revert hx
    decide
  have n : (x.toInt.tdiv w.toInt).natAbs = x.toInt.natAbs / w.toInt.natAbs := Int.natAbs_tdiv _ _
  have le := Nat.div_le_self x.toInt.natAbs w.toInt.natAbs
  rw [← n, ← q] at le
  show sml (if (x ^^^ w) < 0 then if ((x / w) * w) = x then x / w else (x / w) - 1 else x / w)
  unfold sml
  split
  · split
    · omega
    · next hne =>
      by_cases e : w.toInt = 1
      · exfalso
        have e1 : (x / w).toInt = x.toInt := by rw [q, e, Int.tdiv_one]
        have e2 : x / w = x := Int32.toInt_inj.mp e1
        have e3 : w = 1 := Int32.toInt_inj.mp (by rw [e]; decide)
        rw [e2, e3] at hne
        exact hne (Int32.mul_one x)
      · have l2 := Nat.div_le_div_left (a := x.toInt.natAbs) (show 2 ≤ w.toInt.natAbs by omega) (by omega)
        rw [← n, ← q] at l2
        rw [ti_sub rfl (show (1 : Int32).toInt = 1 by decide) (by omega) (by omega)]
        omega
  · omega
theorem stV_sml {a b w : Int32} (h : slOK a b) (hw : 1 ≤ w.toInt) {s : Nat} (hs : s < 1200) : sml (stV a b w s) := by
  have t := tilt h
  have u := uV_i s
  have v := vV_i hs
  have m1 := mul_bd (a := a.toInt) (b := (vV s).toInt) (A := 9) (B := 59) (by omega) (by omega) (by omega) (by omega)
  have m2 := mul_bd (a := b.toInt) (b := (uV s).toInt) (A := 9) (B := 79) (by omega) (by omega) (by omega) (by omega)
  refine flo_sml ?_ hw
  unfold sml
  rw [ti_sub (ti_mul rfl rfl (by omega) (by omega)) (ti_mul rfl rfl (by omega) (by omega)) (by omega) (by omega)]
  omega
/-- the order along a row -/
def ahd (al : Ar) (s t : Nat) : Prop := al s < al t ∨ (al s = al t ∧ s < t)
def pre (st al : Ar) (s t : Nat) : Prop := st s < st t ∨ (st s = st t ∧ ahd al s t)
theorem tri32 (x y : Int32) : x < y ∨ x = y ∨ y < x := by
  rw [Int32.lt_iff_toInt_lt, Int32.lt_iff_toInt_lt, ← Int32.toInt_inj]; omega
theorem irr32 (x : Int32) : ¬ x < x := by rw [Int32.lt_iff_toInt_lt]; omega
theorem tr32 {x y z : Int32} (h : x < y) (h2 : y < z) : x < z := by
  rw [Int32.lt_iff_toInt_lt] at *; omega
theorem ahd_tri (al : Ar) (s t : Nat) : ahd al s t ∨ s = t ∨ ahd al t s := by
  unfold ahd
  rcases tri32 (al s) (al t) with h | h | h
  · exact Or.inl (Or.inl h)
  · rcases Nat.lt_trichotomy s t with g | g | g
    · exact Or.inl (Or.inr ⟨h, g⟩)
    · exact Or.inr (Or.inl g)
    · exact Or.inr (Or.inr (Or.inr ⟨h.symm, g⟩))
  · exact Or.inr (Or.inr (Or.inl h))
theorem ahd_irr (al : Ar) (s : Nat) : ¬ ahd al s s := by
  rintro (h | h)
  · exact irr32 _ h
  · omega
theorem ahd_tr {al : Ar} {s t u : Nat} (h : ahd al s t) (h2 : ahd al t u) : ahd al s u := by
  rcases h with h | ⟨h, h'⟩ <;> rcases h2 with h2 | ⟨h2, h2'⟩
  · exact Or.inl (tr32 h h2)
  · exact Or.inl (h2 ▸ h)
  · exact Or.inl (h.symm ▸ h2)
  · exact Or.inr ⟨h.trans h2, by omega⟩
theorem pre_tri (st al : Ar) (s t : Nat) : pre st al s t ∨ s = t ∨ pre st al t s := by
  unfold pre
  rcases tri32 (st s) (st t) with h | h | h
  · exact Or.inl (Or.inl h)
  · rcases ahd_tri al s t with g | g | g
    · exact Or.inl (Or.inr ⟨h, g⟩)
    · exact Or.inr (Or.inl g)
    · exact Or.inr (Or.inr (Or.inr ⟨h.symm, g⟩))
  · exact Or.inr (Or.inr (Or.inl h))
theorem pre_irr (st al : Ar) (s : Nat) : ¬ pre st al s s := by
  rintro (h | h)
  · exact irr32 _ h
  · exact ahd_irr al s h.2
theorem pre_tr {st al : Ar} {s t u : Nat} (h : pre st al s t) (h2 : pre st al t u) : pre st al s u := by
  rcases h with h | ⟨h, h'⟩ <;> rcases h2 with h2 | ⟨h2, h2'⟩
  · exact Or.inl (tr32 h h2)
  · exact Or.inl (h2 ▸ h)
  · exact Or.inl (h.symm ▸ h2)
  · exact Or.inr ⟨h.trans h2, ahd_tr h' h2'⟩
theorem isAhead_ok (al : Ar) {s t : Nat} (hs : s < 1200) (ht : t < 1200) : (ahd al s t ∧ X10_isAhead al (nI s) (nI t) = some 1) ∨ (¬ ahd al s t ∧ X10_isAhead al (nI s) (nI t) = some 0) := by
  have ag1 : ag al (nI s) = al s := ag_nI (by omega)
  have ag2 : ag al (nI t) = al t := ag_nI (by omega)
  unfold X10_isAhead
  simp only [ck_t (ix_nI hs (show 1200 < 2 ^ 31 by decide)), ck_t (ix_nI ht (show 1200 < 2 ^ 31 by decide)), ag1, ag2]
  unfold ahd
  by_cases e : al s = al t
  · rw [if_pos e]
    by_cases l : s < t
    · left
      rw [if_neg (nI_ge l (by omega))]
      exact ⟨Or.inr ⟨e, l⟩, rfl⟩
    · right
      rw [if_pos (nI_le (by omega) (by omega))]
      refine ⟨?_, rfl⟩
      rintro (h | h)
      · rw [e] at h; exact irr32 _ h
      · exact l h.2
  · rw [if_neg e]
    by_cases l : al t ≤ al s
    · right
      rw [if_pos l]
      refine ⟨?_, rfl⟩
      rintro (h | h)
      · exact (lt_or_le32 _ _).mp h l
      · exact e h.1
    · left
      rw [if_neg l]
      exact ⟨Or.inl ((lt_or_le32 _ _).mpr l), rfl⟩
/-- the reference: the first SQUARE without a row -/
theorem next_ok (al ro st wh : Ar) : ∃ r, X10_next al ro st wh = some r ∧ ((r = -1 ∧ ∀ s, s < 1200 → wh s = 2 → ¬ ro s = -1) ∨ ∃ f, r = nI f ∧ f < 1200 ∧ wh f = 2 ∧ ro f = -1 ∧ ∀ s, s < 1200 → wh s = 2 → ro s = -1 → s ≠ f → pre st al f s) := by
  obtain ⟨r, h1, h2⟩ := whileV_up (body := fun s => X10_next_L4 al ro st wh s.1 s.2) 1200
    (fun k s => s.2 = nI k ∧ ((s.1 = -1 ∧ ∀ s, s < k → wh s = 2 → ¬ ro s = -1) ∨ ∃ f, s.1 = nI f ∧ f < k ∧ wh f = 2 ∧ ro f = -1 ∧ ∀ s, s < k → wh s = 2 → ro s = -1 → s ≠ f → pre st al f s))
    (fun r => (r = -1 ∧ ∀ s, s < 1200 → wh s = 2 → ¬ ro s = -1) ∨ ∃ f, r = nI f ∧ f < 1200 ∧ wh f = 2 ∧ ro f = -1 ∧ ∀ s, s < 1200 → wh s = 2 → ro s = -1 → s ≠ f → pre st al f s)
    (fun k s hk hs => by
      obtain ⟨v, i⟩ := s
      obtain ⟨rfl, q⟩ := hs
      dsimp only at q
      left
      have c0 : ¬ (1200 : Int32) ≤ nI k := nI_ge hk (by decide)
      have ic := ix_nI hk (show 1200 < 2 ^ 31 by decide)
      have a1 : ag wh (nI k) = wh k := ag_nI (by omega)
      have a2 : ag ro (nI k) = ro k := ag_nI (by omega)
      have a3 : ag st (nI k) = st k := ag_nI (by omega)
      have b79 : ∀ v : Int32, X10_next_b4_79 v (nI k) = some (.inl (v, nI (k + 1))) := fun v => by unfold X10_next_b4_79; rw [nm_eq, nI_1]
      have b77 : X10_next_b4_77 (nI k) = some (.inl (nI k, nI (k + 1))) := b79 (nI k)
      by_cases cd : wh k = 2 ∧ ro k = -1
      · obtain ⟨cw, cr⟩ := cd
        rcases q with ⟨q1, q2⟩ | ⟨f, q1, q2, q3, q4, q5⟩
        · subst q1
          refine ⟨(nI k, nI (k + 1)), ?_, rfl, Or.inr ⟨k, rfl, by omega, cw, cr, fun s hs h2 h3 hf => absurd h3 (q2 s (by omega) h2)⟩⟩
          show X10_next_L4 al ro st wh (-1) (nI k) = _
          unfold X10_next_L4
          simp only [if_neg c0, ck_t ic, a1, cw, if_true, a2, cr, if_pos (show (-1 : Int32) < 0 by decide), b77]
        · subst q1
          have fl : f < 1200 := by omega
          have icf := ix_nI fl (show 1200 < 2 ^ 31 by decide)
          have a4 : ag st (nI f) = st f := ag_nI (by omega)
          have nf : ¬ nI f < 0 := nI_nlt (Nat.zero_le f) (by omega)
          have new : pre st al k f → (nI k, nI (k + 1)).2 = nI (k + 1) ∧ (((nI k, nI (k + 1)).1 = -1 ∧ ∀ s, s < k + 1 → wh s = 2 → ¬ ro s = -1) ∨ ∃ f, (nI k, nI (k + 1)).1 = nI f ∧ f < k + 1 ∧ wh f = 2 ∧ ro f = -1 ∧ ∀ s, s < k + 1 → wh s = 2 → ro s = -1 → s ≠ f → pre st al f s) := fun hp =>
            ⟨rfl, Or.inr ⟨k, rfl, by omega, cw, cr, fun s hs h2 h3 hf => by
              by_cases e : s = f
              · rw [e]; exact hp
              · exact pre_tr hp (q5 s (by omega) h2 h3 e)⟩⟩
          have old : pre st al f k → (nI f, nI (k + 1)).2 = nI (k + 1) ∧ (((nI f, nI (k + 1)).1 = -1 ∧ ∀ s, s < k + 1 → wh s = 2 → ¬ ro s = -1) ∨ ∃ g, (nI f, nI (k + 1)).1 = nI g ∧ g < k + 1 ∧ wh g = 2 ∧ ro g = -1 ∧ ∀ s, s < k + 1 → wh s = 2 → ro s = -1 → s ≠ g → pre st al g s) := fun hp =>
            ⟨rfl, Or.inr ⟨f, rfl, by omega, q3, q4, fun s hs h2 h3 hf => by
              by_cases e : s = k
              · rw [e]; exact hp
              · exact q5 s (by omega) h2 h3 hf⟩⟩
          by_cases l1 : st k < st f
          · refine ⟨(nI k, nI (k + 1)), ?_, new (Or.inl l1)⟩
            show X10_next_L4 al ro st wh (nI f) (nI k) = _
            unfold X10_next_L4
            simp only [if_neg c0, ck_t ic, a1, cw, if_true, a2, cr, if_neg nf, ck_t icf, a3, a4, if_pos l1, b77]
          · by_cases l2 : st k = st f
            · rcases isAhead_ok al hk fl with ⟨z1, z2⟩ | ⟨z1, z2⟩
              · refine ⟨(nI k, nI (k + 1)), ?_, new (Or.inr ⟨l2, z1⟩)⟩
                show X10_next_L4 al ro st wh (nI f) (nI k) = _
                unfold X10_next_L4
                simp only [if_neg c0, ck_t ic, a1, cw, if_true, a2, cr, if_neg nf, ck_t icf, a3, a4, if_neg l1, if_pos l2, z2, bnd_some, if_neg (show ¬ (1 : Int32) = 0 by decide), b77]
              · refine ⟨(nI f, nI (k + 1)), ?_, old (Or.inr ⟨l2.symm, ?_⟩)⟩
                · show X10_next_L4 al ro st wh (nI f) (nI k) = _
                  unfold X10_next_L4
                  simp only [if_neg c0, ck_t ic, a1, cw, if_true, a2, cr, if_neg nf, ck_t icf, a3, a4, if_neg l1, if_pos l2, z2, bnd_some, b79]
                · rcases ahd_tri al k f with g | g | g
                  · exact absurd g z1
                  · omega
                  · exact g
            · refine ⟨(nI f, nI (k + 1)), ?_, old (Or.inl ?_)⟩
              · show X10_next_L4 al ro st wh (nI f) (nI k) = _
                unfold X10_next_L4
                simp only [if_neg c0, ck_t ic, a1, cw, if_true, a2, cr, if_neg nf, ck_t icf, a3, a4, if_neg l1, if_neg l2, b79]
              · rcases tri32 (st k) (st f) with g | g | g
                · exact absurd g l1
                · exact absurd g l2
                · exact g
      · refine ⟨(v, nI (k + 1)), ?_, rfl, ?_⟩
        · show X10_next_L4 al ro st wh v (nI k) = _
          unfold X10_next_L4
          simp only [if_neg c0, ck_t ic, a1, a2]
          by_cases cw : wh k = 2
          · rw [if_pos cw, if_neg (fun e => cd ⟨cw, e⟩)]; exact b79 v
          · rw [if_neg cw]; exact b79 v
        · rcases q with ⟨q1, q2⟩ | ⟨f, q1, q2, q3, q4, q5⟩
          · refine Or.inl ⟨q1, fun s hs h2 h3 => ?_⟩
            by_cases e : s = k
            · rw [e] at h2 h3; exact cd ⟨h2, h3⟩
            · exact q2 s (by omega) h2 h3
          · refine Or.inr ⟨f, q1, by omega, q3, q4, fun s hs h2 h3 hf => ?_⟩
            by_cases e : s = k
            · rw [e] at h2 h3; exact absurd ⟨h2, h3⟩ cd
            · exact q5 s (by omega) h2 h3 hf)
    (fun s hs => by
      obtain ⟨v, i⟩ := s
      obtain ⟨rfl, q⟩ := hs
      refine ⟨v, ?_, q⟩
      show X10_next_L4 al ro st wh v (nI 1200) = _
      unfold X10_next_L4
      rw [if_pos (show (1200 : Int32) ≤ nI 1200 from nI_le (a := 1200) (Nat.le_refl _) (by decide))]) 0 (-1, 0) (by omega) ⟨rfl, Or.inl ⟨rfl, fun s hs => by omega⟩⟩
  refine ⟨r, ?_, h2⟩
  unfold X10_next
  rw [h1, bnd_some]
/-- the reference's strips and alongs -/
theorem ref_keys (a b : Int32) {w : Nat} (hw : 1 ≤ w) (hw2 : w ≤ 400) (al ro st : Ar) : ∃ al' ro' st', whileV (fun s => X10_makes_L18 a b (nI w) s.1 s.2.1 s.2.2.1 s.2.2.2) (al, ro, st, 0) = some (al', ro', st') ∧ ∀ s, s < 1200 → ro' s = -1 ∧ st' s = stV a b (nI w) s ∧ al' s = alV a b s := by
  have nw : nz (nI w) = true := by
    unfold nz
    refine decide_eq_true (fun e => ?_)
    have := congrArg Int32.toInt e
    rw [ti_nI (by omega)] at this
    have z : (0 : Int32).toInt = 0 := by decide
    omega
  obtain ⟨⟨r1, r2, r3⟩, h1, h2⟩ := whileV_up (body := fun s => X10_makes_L18 a b (nI w) s.1 s.2.1 s.2.2.1 s.2.2.2) 1200
    (fun k s => s.2.2.2 = nI k ∧ ∀ t, t < k → s.2.1 t = -1 ∧ s.2.2.1 t = stV a b (nI w) t ∧ s.1 t = alV a b t)
    (fun r => ∀ t, t < 1200 → r.2.1 t = -1 ∧ r.2.2 t = stV a b (nI w) t ∧ r.1 t = alV a b t)
    (fun k s hk hs => by
      obtain ⟨al, ro, st, i⟩ := s
      obtain ⟨rfl, q⟩ := hs
      dsimp only at q
      left
      have au1 : ∀ (f : Ar) x, au f (nI k) x = upd f k x := fun f x => au_nI (by omega)
      refine ⟨(upd al k (alV a b k), upd ro k (-1), upd st k (stV a b (nI w) k), nI (k + 1)), ?_, rfl, fun t ht => ?_⟩
      · show X10_makes_L18 a b (nI w) al ro st (nI k) = _
        unfold X10_makes_L18
        simp only [if_neg (show ¬ (1200 : Int32) ≤ nI k from nI_ge hk (by decide)), ck_t nw, ck_t (ix_nI hk (show 1200 < 2 ^ 31 by decide)), div40 (show k < 2 ^ 31 by omega), rem40' (show k < 2 ^ 31 by omega), au1, nm_eq, nI_1]
        rfl
      · show upd ro k (-1) t = -1 ∧ upd st k (stV a b (nI w) k) t = _ ∧ upd al k (alV a b k) t = _
        rw [upd_at, upd_at, upd_at]
        by_cases e : t = k
        · rw [if_pos e, if_pos e, if_pos e, e]; exact ⟨rfl, rfl, rfl⟩
        · rw [if_neg e, if_neg e, if_neg e]; exact q t (by omega))
    (fun s hs => by
      obtain ⟨al, ro, st, i⟩ := s
      obtain ⟨rfl, q⟩ := hs
      refine ⟨(al, ro, st), ?_, q⟩
      show X10_makes_L18 a b (nI w) al ro st (nI 1200) = _
      unfold X10_makes_L18
      rw [if_pos (show (1200 : Int32) ≤ nI 1200 from nI_le (a := 1200) (Nat.le_refl _) (by decide))]) 0 (al, ro, st, 0) (by omega) ⟨rfl, fun t ht => by omega⟩
  exact ⟨r1, r2, r3, h1, h2⟩
theorem gather_ok (kd : Ar) (a b : Int32) {w : Nat} (hw : 1 ≤ w) (hw2 : w ≤ 400) (al nu so st : Ar) : ∃ al' nu' so' st' F, X6_gather al nu so st kd a b (nI w) = some (al', nu', so', st') ∧ (∀ s, s < 1200 → nu' s = -1) ∧ (∀ s, s < 1200 → kd s = 2 → st' s = stV a b (nI w) s ∧ al' s = alV a b s) ∧
    (∀ k, k < cnt (fun s => decide (kd s = 2)) 1200 → so' k = nI (F k)) ∧ Lst (cnt (fun s => decide (kd s = 2)) 1200) F (fun s t => s < t) (fun s => s < 1200 ∧ kd s = 2) := by
  have mw : mx (nI w) 1 = nI w := by
    rw [show (1 : Int32) = nI 1 from rfl, mx_nI (by omega) (by omega), Nat.max_eq_left (by omega)]
  have nw : nz (nI w) = true := by
    unfold nz
    refine decide_eq_true (fun e => ?_)
    have := congrArg Int32.toInt e
    rw [ti_nI (by omega)] at this
    have z : (0 : Int32).toInt = 0 := by decide
    omega
  obtain ⟨⟨r1, r2, r3, r4⟩, h1, h2, h3, F, h4, h5⟩ := whileV_up (body := fun s => X6_gather_L6 kd a b (nI w) s.1 s.2.1 s.2.2.1 s.2.2.2.1 s.2.2.2.2.1 s.2.2.2.2.2) 1200
    (fun k s => s.2.2.2.2.2 = nI k ∧ s.2.2.2.2.1 = nI (cnt (fun s => decide (kd s = 2)) k) ∧ (∀ t, t < k → s.2.1 t = -1) ∧ (∀ t, t < k → kd t = 2 → s.2.2.2.1 t = stV a b (nI w) t ∧ s.1 t = alV a b t) ∧ ∃ F : Nat → Nat, (∀ j, j < cnt (fun s => decide (kd s = 2)) k → s.2.2.1 j = nI (F j)) ∧ Lst (cnt (fun s => decide (kd s = 2)) k) F (fun s t => s < t) (fun s => s < k ∧ kd s = 2))
    (fun r => (∀ t, t < 1200 → r.2.1 t = -1) ∧ (∀ t, t < 1200 → kd t = 2 → r.2.2.2 t = stV a b (nI w) t ∧ r.1 t = alV a b t) ∧ ∃ F : Nat → Nat, (∀ j, j < cnt (fun s => decide (kd s = 2)) 1200 → r.2.2.1 j = nI (F j)) ∧ Lst (cnt (fun s => decide (kd s = 2)) 1200) F (fun s t => s < t) (fun s => s < 1200 ∧ kd s = 2))
    (fun k s hk hs => by
      obtain ⟨al, nu, so, st, n, i⟩ := s
      obtain ⟨rfl, rfl, q1, q2, F, q3, q4⟩ := hs
      dsimp only at q1 q2 q3
      left
      have au1 : ∀ (f : Ar) x, au f (nI k) x = upd f k x := fun f x => au_nI (by omega)
      have cl := cnt_le (fun s => decide (kd s = 2)) k
      have a1 : ag kd (nI k) = kd k := ag_nI (by omega)
      have nu1 : ∀ t, t < k + 1 → upd nu k (-1) t = -1 := fun t ht => by
        rw [upd_at]
        by_cases e : t = k
        · rw [if_pos e]
        · rw [if_neg e]; exact q1 t (by omega)
      by_cases c : kd k = 2
      · have cs : cnt (fun s => decide (kd s = 2)) (k + 1) = cnt (fun s => decide (kd s = 2)) k + 1 := by rw [cnt_succ, if_pos (decide_eq_true c)]
        have au2 : ∀ x, au so (nI (cnt (fun s => decide (kd s = 2)) k)) x = upd so (cnt (fun s => decide (kd s = 2)) k) x := fun x => au_nI (by omega)
        refine ⟨(upd al k (alV a b k), upd nu k (-1), upd so (cnt (fun s => decide (kd s = 2)) k) (nI k), upd st k (stV a b (nI w) k), nI (cnt (fun s => decide (kd s = 2)) k + 1), nI (k + 1)), ?_, rfl, ?_, nu1, fun t ht => ?_, uN F (cnt (fun s => decide (kd s = 2)) k) k, ?_⟩
        · show X6_gather_L6 kd a b (nI w) al nu so st (nI _) (nI k) = _
          unfold X6_gather_L6 X6_gather_b6_110
          simp only [if_neg (show ¬ (1200 : Int32) ≤ nI k from nI_ge hk (by decide)), mw, ck_t nw, ck_t (ix_nI hk (show 1200 < 2 ^ 31 by decide)), ck_t (ix_nI (show cnt (fun s => decide (kd s = 2)) k < 1200 by omega) (show 1200 < 2 ^ 31 by decide)), a1, c, if_true, div40 (show k < 2 ^ 31 by omega), rem40' (show k < 2 ^ 31 by omega), au1, au2, nm_eq, nI_1]
          rfl
        · show nI (cnt (fun s => decide (kd s = 2)) k + 1) = _
          rw [cs]
        · show kd t = 2 → upd st k (stV a b (nI w) k) t = _ ∧ upd al k (alV a b k) t = _
          rw [upd_at, upd_at]
          by_cases e : t = k
          · rw [if_pos e, if_pos e, e]; exact fun _ => ⟨rfl, rfl⟩
          · rw [if_neg e, if_neg e]; exact q2 t (by omega)
        · rw [cs]
          generalize cnt (fun s => decide (kd s = 2)) k = n at *
          obtain ⟨p1, p2, p3⟩ := q4
          refine ⟨fun j hj => ?_, fun j hj => ?_, fun i j hi hj => ?_, fun s hs => ?_⟩
          · show upd so n (nI k) j = _
            rw [upd_at]
            by_cases e : j = n
            · rw [if_pos e, e, uN_s]
            · rw [if_neg e, uN_n e]; exact q3 j (by omega)
          · by_cases e : j = n
            · rw [e, uN_s]; exact ⟨by omega, c⟩
            · rw [uN_n e]; have := p1 j (by omega); exact ⟨by omega, this.2⟩
          · by_cases e : j = n
            · rw [e, uN_s, uN_n (by omega)]; exact (p1 i (by omega)).1
            · rw [uN_n e, uN_n (by omega)]; exact p2 i j hi (by omega)
          · by_cases e : s = k
            · exact ⟨n, by omega, by rw [uN_s, e]⟩
            · obtain ⟨j, j1, j2⟩ := p3 s ⟨by omega, hs.2⟩
              exact ⟨j, by omega, by rw [uN_n (by omega)]; exact j2⟩
      · have cs : cnt (fun s => decide (kd s = 2)) (k + 1) = cnt (fun s => decide (kd s = 2)) k := by rw [cnt_succ, if_neg (fun e => c (of_decide_eq_true e))]; rfl
        refine ⟨(al, upd nu k (-1), so, st, nI (cnt (fun s => decide (kd s = 2)) k), nI (k + 1)), ?_, rfl, ?_, nu1, fun t ht hk2 => ?_, F, ?_⟩
        · show X6_gather_L6 kd a b (nI w) al nu so st (nI _) (nI k) = _
          unfold X6_gather_L6 X6_gather_b6_110
          simp only [if_neg (show ¬ (1200 : Int32) ≤ nI k from nI_ge hk (by decide)), ck_t (ix_nI hk (show 1200 < 2 ^ 31 by decide)), a1, if_neg c, au1, nm_eq, nI_1]
        · show nI (cnt (fun s => decide (kd s = 2)) k) = _
          rw [cs]
        · exact q2 t (by
            have : t ≠ k := fun e => c (e ▸ hk2)
            omega) hk2
        · rw [cs]
          obtain ⟨p1, p2, p3⟩ := q4
          refine ⟨q3, fun j hj => ?_, p2, fun s hs => p3 s ⟨?_, hs.2⟩⟩
          · have := p1 j hj; exact ⟨by omega, this.2⟩
          · have : s ≠ k := fun e => c (e ▸ hs.2)
            omega)
    (fun s hs => by
      obtain ⟨al, nu, so, st, n, i⟩ := s
      obtain ⟨rfl, rfl, q⟩ := hs
      refine ⟨(al, nu, so, st), ?_, q⟩
      show X6_gather_L6 kd a b (nI w) al nu so st (nI _) (nI 1200) = _
      unfold X6_gather_L6
      rw [if_pos (show (1200 : Int32) ≤ nI 1200 from nI_le (a := 1200) (Nat.le_refl _) (by decide))]) 0 (al, nu, so, st, 0, 0) (by omega) ⟨rfl, rfl, fun t ht => by omega, fun t ht => by omega, fun _ => 0, fun j hj => absurd hj (by show ¬ j < 0; omega), fun j hj => absurd hj (by show ¬ j < 0; omega), fun i j hi hj => absurd hj (by show ¬ j < 0; omega), fun s hs => by omega⟩
  refine ⟨r1, r2, r3, r4, F, ?_, h2, h3, h4, h5⟩
  unfold X6_gather
  simp only [h1, bnd_some, bnd_none, rmap_some, nm_eq, Sum.elim_inl, Sum.elim_inr, un2_mk, un3_mk, un4_mk, un5_mk, un6_mk, un7_mk, un8_mk, un9_mk, un10_mk, un11_mk, un12_mk]
/-- how many there are -/
theorem Lst_cnt {n N : Nat} {F : Nat → Nat} {lt : Nat → Nat → Prop} {P : Nat → Prop} {p : Nat → Bool} (hl : Lst n F lt P) (hi : ∀ s, ¬ lt s s) (hp : ∀ s, P s ↔ s < N ∧ p s = true) : cnt p N = n := by
  obtain ⟨h1, h2, h3⟩ := hl
  have A : n ≤ cnt p N := inj_le (cnt p N) n (fun k => cnt p (F k)) (fun i hi => by
      have := (hp _).mp (h1 i hi)
      exact cnt_lt this.1 this.2) (fun i j hij hj e => by
      have a := (hp _).mp (h1 i (by omega))
      have b := (hp _).mp (h1 j hj)
      rcases Nat.lt_trichotomy (F i) (F j) with q | q | q
      · have := cnt_lt q a.2; omega
      · have := h2 i j hij hj; rw [q] at this; exact hi _ this
      · have := cnt_lt q b.2; omega)
  have ex : ∀ N, ∃ E : Nat → Nat, (∀ i, i < cnt p N → E i < N ∧ p (E i) = true) ∧ ∀ i j, i < j → j < cnt p N → E i < E j := by
    intro N
    induction N with
    | zero => exact ⟨fun _ => 0, fun i hi => absurd hi (by show ¬ i < 0; omega), fun i j _ hj => absurd hj (by show ¬ j < 0; omega)⟩
    | succ N ih =>
      obtain ⟨E, e1, e2⟩ := ih
      by_cases c : p N = true
      · refine ⟨uN E (cnt p N) N, ?_⟩
        rw [cnt_succ, if_pos c]
        refine ⟨fun i hi => ?_, fun i j hij hj => ?_⟩
        · by_cases e : i = cnt p N
          · rw [e, uN_s]; exact ⟨by omega, c⟩
          · rw [uN_n e]; have := e1 i (by omega); exact ⟨by omega, this.2⟩
        · by_cases e : j = cnt p N
          · rw [e, uN_s, uN_n (by omega)]; exact (e1 i (by omega)).1
          · rw [uN_n e, uN_n (by omega)]; exact e2 i j hij (by omega)
      · refine ⟨E, ?_⟩
        rw [cnt_succ, if_neg c]
        exact ⟨fun i hi => by have := e1 i hi; exact ⟨by omega, this.2⟩, e2⟩
  obtain ⟨E, e1, e2⟩ := ex N
  have ch : ∀ i, ∃ k, i < cnt p N → k < n ∧ F k = E i := fun i => by
    by_cases c : i < cnt p N
    · obtain ⟨k, k1, k2⟩ := h3 (E i) ((hp _).mpr (e1 i c))
      exact ⟨k, fun _ => ⟨k1, k2⟩⟩
    · exact ⟨0, fun q => absurd q c⟩
  obtain ⟨g, hg⟩ := Classical.axiomOfChoice ch
  have B : cnt p N ≤ n := inj_le n (cnt p N) g (fun i hi => (hg i hi).1) (fun i j hij hj e => by
    have a := (hg i (by omega)).2
    have b := (hg j hj).2
    have := e2 i j hij hj
    rw [e, b] at a
    omega)
  omega
