/-! the ends of rows -/
def Mk (al en sta : Ar) (S R : Nat → Nat) (k r : Nat) : Prop := ∃ i l, i < k ∧ l < k ∧ sta r = nI i ∧ R i = r ∧ (∀ j, j < i → R j < r) ∧ en (2 * r) = nI (S i) ∧ en (2 * r + 1) = nI (S l) ∧ R l = r ∧ ∀ j, j < k → R j = r → al (S j) < al (S l) ∨ (al (S j) = al (S l) ∧ S l ≤ S j)
theorem markEnds_ok {num sq al : Ar} {S R : Nat → Nat} {n m : Nat} (hn : n ≤ 1200) (hm : m ≤ 60) (hS : ∀ k, k < n → sq k = nI (S k) ∧ S k < 1200 ∧ num (S k) = nI (R k) ∧ R k < m) (hR : ∀ i j, i < j → j < n → R i < R j ∨ (R i = R j ∧ ahd al (S i) (S j))) (en sta : Ar) :
    ∃ en' sta', X6_markEnds (nI m) al en (nI n) num sq sta = some (en', sta') ∧ sta' m = nI n ∧ ∀ j, j < n → Mk al en' sta' S R n (R j) := by
  obtain ⟨⟨en', sta'⟩, h1, h2⟩ := whileV_up (body := fun s => X6_markEnds_L4 al (nI n) num sq s.1 s.2.1 s.2.2.1 s.2.2.2) n
    (fun k s => s.2.2.2 = nI k ∧ ((k = 0 ∧ s.2.2.1 = -1) ∨ ∃ j, j + 1 = k ∧ s.2.2.1 = nI (R j)) ∧ ∀ j, j < k → Mk al s.1 s.2.1 S R k (R j))
    (fun r => ∀ j, j < n → Mk al r.1 r.2 S R n (R j))
    (fun k s hk hs => by
      obtain ⟨en, sta, v1, i⟩ := s
      obtain ⟨rfl, q1, q2⟩ := hs
      dsimp only at q1 q2
      left
      obtain ⟨s1, s2, s3, s4⟩ := hS k hk
      have c0 : ¬ nI n ≤ nI k := nI_ge hk (by omega)
      have ic := ix_nI (show k < 1200 by omega) (show 1200 < 2 ^ 31 by decide)
      have is := ix_nI s2 (show 1200 < 2 ^ 31 by decide)
      have a1 : ag sq (nI k) = nI (S k) := by rw [ag_nI (by omega), s1]
      have a2 : ag num (nI (S k)) = nI (R k) := by rw [ag_nI (by omega), s3]
      have a3 : ag al (nI (S k)) = al (S k) := ag_nI (by omega)
      have tr : (2 : Int32) * nI (R k) = nI (2 * R k) := pk_mul 2 _
      have ie := ix_nI (show 2 * R k < 120 by omega) (show 120 < 2 ^ 31 by decide)
      have ie1 := ix_nI (show 2 * R k + 1 < 120 by omega) (show 120 < 2 ^ 31 by decide)
      have au1 : ∀ (f : Ar) x, au f (nI (R k)) x = upd f (R k) x := fun f x => au_nI (by omega)
      have au2 : ∀ (f : Ar) x, au f (nI (2 * R k)) x = upd f (2 * R k) x := fun f x => au_nI (by omega)
      have au3 : ∀ (f : Ar) x, au f (nI (2 * R k + 1)) x = upd f (2 * R k + 1) x := fun f x => au_nI (by omega)
      have bb : ∀ (en sta : Ar) (v1 : Int32), X6_markEnds_b4_109 en sta v1 (nI k) = some (.inl (en, sta, v1, nI (k + 1))) := fun en sta v1 => by unfold X6_markEnds_b4_109; rw [nm_eq, nI_1]
      by_cases c : nI (R k) = v1
      · obtain ⟨j, e1, e2⟩ : ∃ j, j + 1 = k ∧ v1 = nI (R j) := by
          rcases q1 with ⟨_, q⟩ | q
          · rw [q] at c; exact absurd c (nI_m1 (by omega))
          · exact q
        have sj := (hS j (by omega)).2.2.2
        have rj : R k = R j := (nI_eq (show R k < 2 ^ 31 by omega) (show R j < 2 ^ 31 by omega)).mp (c.trans e2)
        obtain ⟨i, l, y1, y2, y3, y4, y5, y6, y7, y8, y9⟩ := q2 j (by omega)
        rw [← rj] at y3 y4 y5 y6 y7 y8 y9
        have sl := hS l (by omega)
        have a4 : ag en (nI (2 * R k + 1)) = nI (S l) := by rw [ag_nI (by omega), y7]
        have il := ix_nI sl.2.1 (show 1200 < 2 ^ 31 by decide)
        have a5 : ag al (nI (S l)) = al (S l) := ag_nI (by omega)
        by_cases d : al (S k) ≤ al (S l)
        · refine ⟨(en, sta, v1, nI (k + 1)), ?_, rfl, Or.inr ⟨k, rfl, c.symm⟩, fun j' hj' => ?_⟩
          · show X6_markEnds_L4 al (nI n) num sq en sta v1 (nI k) = _
            unfold X6_markEnds_L4
            simp only [if_neg c0, ck_t ic, a1, ck_t is, a2, nm_eq, if_pos c, tr, nI_1, ck_t ie1, a4, ck_t il, a3, a5, if_pos d, bb]
          · by_cases e : R j' = R k
            · rw [e]
              refine ⟨i, l, by omega, by omega, y3, y4, y5, y6, y7, y8, fun z hz hr => ?_⟩
              by_cases ez : z = k
              · subst ez
                rcases tri32 (al (S z)) (al (S l)) with t | t | t
                · exact Or.inl t
                · refine Or.inr ⟨t, ?_⟩
                  rcases hR l z (by omega) hk with u | ⟨_, u | u⟩
                  · omega
                  · rw [t] at u; exact absurd u (irr32 _)
                  · omega
                · exact absurd t ((le32 _ _).mp d)
              · exact y9 z (by omega) hr
            · have hj2 : j' < k := by
                have : j' ≠ k := fun z => e (by rw [z])
                omega
              obtain ⟨i', l', x1, x2, x3, x4, x5, x6, x7, x8, x9⟩ := q2 j' hj2
              exact ⟨i', l', by omega, by omega, x3, x4, x5, x6, x7, x8, fun z hz hr => x9 z (by
                have : z ≠ k := fun u => e (by rw [← hr, u])
                omega) hr⟩
        · refine ⟨(upd en (2 * R k + 1) (nI (S k)), sta, v1, nI (k + 1)), ?_, rfl, Or.inr ⟨k, rfl, c.symm⟩, fun j' hj' => ?_⟩
          · show X6_markEnds_L4 al (nI n) num sq en sta v1 (nI k) = _
            unfold X6_markEnds_L4
            simp only [if_neg c0, ck_t ic, a1, ck_t is, a2, nm_eq, if_pos c, tr, nI_1, ck_t ie1, a4, ck_t il, a3, a5, if_neg d, au3, bb]
          · show Mk al (upd en (2 * R k + 1) (nI (S k))) sta S R (k + 1) (R j')
            by_cases e : R j' = R k
            · rw [e]
              refine ⟨i, k, by omega, by omega, y3, y4, y5, ?_, by rw [upd_at, if_pos rfl], rfl, fun z hz hr => ?_⟩
              · rw [upd_at, if_neg (by omega)]; exact y6
              · by_cases ez : z = k
                · subst ez; exact Or.inr ⟨rfl, Nat.le_refl _⟩
                · left
                  have := y9 z (by omega) hr
                  rw [Int32.le_iff_toInt_le] at d
                  rw [Int32.lt_iff_toInt_lt] at this ⊢
                  rcases this with t | ⟨t, _⟩
                  · omega
                  · rw [t]; omega
            · have hj2 : j' < k := by
                have : j' ≠ k := fun z => e (by rw [z])
                omega
              obtain ⟨i', l', x1, x2, x3, x4, x5, x6, x7, x8, x9⟩ := q2 j' hj2
              refine ⟨i', l', by omega, by omega, x3, x4, x5, ?_, ?_, x8, fun z hz hr => x9 z (by
                have : z ≠ k := fun u => e (by rw [← hr, u])
                omega) hr⟩
              · rw [upd_at, if_neg (by omega)]; exact x6
              · rw [upd_at, if_neg (by omega)]; exact x7
      · have less : ∀ j, j < k → R j < R k := fun j hj => by
          rcases q1 with ⟨q, _⟩ | ⟨j2, e1, e2⟩
          · omega
          · have ne : R j2 ≠ R k := fun z => c (by rw [e2, z])
            have a := hR j2 k (by omega) hk
            by_cases z : j = j2
            · rw [z]; omega
            · have b := hR j j2 (by omega) (by omega)
              omega
        refine ⟨(upd (upd en (2 * R k) (nI (S k))) (2 * R k + 1) (nI (S k)), upd sta (R k) (nI k), nI (R k), nI (k + 1)), ?_, rfl, Or.inr ⟨k, rfl, rfl⟩, fun j' hj' => ?_⟩
        · show X6_markEnds_L4 al (nI n) num sq en sta v1 (nI k) = _
          unfold X6_markEnds_L4
          simp only [if_neg c0, ck_t ic, a1, ck_t is, a2, nm_eq, if_neg c, ck_t (ix_nI (show R k < 61 by omega) (show 61 < 2 ^ 31 by decide)), tr, nI_1, ck_t ie, ck_t ie1, au1, au2, au3, bb]
        · show Mk al (upd (upd en (2 * R k) (nI (S k))) (2 * R k + 1) (nI (S k))) (upd sta (R k) (nI k)) S R (k + 1) (R j')
          by_cases e : j' = k
          · subst e
            refine ⟨j', j', by omega, by omega, by rw [upd_at, if_pos rfl], rfl, less, ?_, by rw [upd_at, if_pos rfl], rfl, fun z hz hr => ?_⟩
            · rw [upd_at, if_neg (by omega), upd_at, if_pos rfl]
            · by_cases ez : z = j'
              · subst ez; exact Or.inr ⟨rfl, Nat.le_refl _⟩
              · have := less z (by omega); omega
          · have hj2 : j' < k := by omega
            have ll := less j' hj2
            obtain ⟨i', l', x1, x2, x3, x4, x5, x6, x7, x8, x9⟩ := q2 j' hj2
            refine ⟨i', l', by omega, by omega, ?_, x4, x5, ?_, ?_, x8, fun z hz hr => x9 z (by
                have : z ≠ k := fun u => by rw [u] at hr; omega
                omega) hr⟩
            · rw [upd_at, if_neg (by omega)]; exact x3
            · rw [upd_at, if_neg (by omega), upd_at, if_neg (by omega)]; exact x6
            · rw [upd_at, if_neg (by omega), upd_at, if_neg (by omega)]; exact x7)
    (fun s hs => by
      obtain ⟨en, sta, v1, i⟩ := s
      obtain ⟨rfl, q1, q2⟩ := hs
      refine ⟨(en, sta), ?_, q2⟩
      show X6_markEnds_L4 al (nI n) num sq en sta v1 (nI n) = _
      unfold X6_markEnds_L4
      rw [if_pos (nI_le (Nat.le_refl n) (by omega))]) 0 (en, sta, -1, 0) (by omega) ⟨rfl, Or.inl ⟨rfl, rfl⟩, fun j hj => by omega⟩
  have au1 : au sta' (nI m) (nI n) = upd sta' m (nI n) := au_nI (by omega)
  refine ⟨en', upd sta' m (nI n), ?_, by rw [upd_at, if_pos rfl], fun j hj => ?_⟩
  · unfold X6_markEnds
    simp only [h1, bnd_some, bnd_none, rmap_some, nm_eq, Sum.elim_inl, Sum.elim_inr, un2_mk, un3_mk, un4_mk, un5_mk, un6_mk, un7_mk, un8_mk, un9_mk, un10_mk, un11_mk, un12_mk, ck_t (ix_nI (show m < 61 by omega) (show 61 < 2 ^ 31 by decide)), au1]
  · obtain ⟨i', l', x1, x2, x3, x4⟩ := h2 j hj
    refine ⟨i', l', x1, x2, ?_, x4⟩
    have := (hS j hj).2.2.2
    rw [upd_at, if_neg (by omega)]; exact x3
/-- a listing of the squares row by row -/
def LstR (al ro sq sta rs : Ar) (n m : Nat) : Prop := ∃ S p : Nat → Nat, (∀ k, k < n → sq k = nI (S k)) ∧ (∀ r, r ≤ m → sta r = nI (p r)) ∧ p 0 = 0 ∧ p m = n ∧ ∀ r, r < m → p r < p (r + 1) ∧ p (r + 1) ≤ n ∧ rs r = nI (p (r + 1) - p r) ∧ Lst (p (r + 1) - p r) (fun i => S (p r + i)) (ahd al) (fun t => t < 1200 ∧ ro t = nI r)
theorem ends_ok {kd sq al str alr ro enr rs en sta : Ar} {S R : Nat → Nat} {n m : Nat} (hn : n ≤ 1200) (hm : m ≤ 60) (hS : ∀ k, k < n → sq k = nI (S k) ∧ S k < 1200 ∧ kd (S k) = 2 ∧ ro (S k) = nI (R k) ∧ R k < m) (hR : ∀ i j, i < j → j < n → R i < R j ∨ (R i = R j ∧ ahd alr (S i) (S j)))
    (hal : ∀ s, s < 1200 → kd s = 2 → al s = alr s) (honto : ∀ t, t < 1200 → ∀ r, r < m → ro t = nI r → ∃ k, k < n ∧ S k = t) (hE : ∀ r, r < m → EndOK str alr ro enr r ∧ rs r = nI (cnt (fun t => decide (ro t = nI r)) 1200)) (h1 : sta m = nI n) (h2 : ∀ j, j < n → Mk al en sta S R n (R j)) :
    (∀ k, k < 2 * m → en k = enr k ∧ ∃ e, e < 1200 ∧ kd e = 2 ∧ en k = nI e) ∧ LstR alr ro sq sta rs n m := by
  have row : ∀ k, k < n → ∀ r, r < m → (ro (S k) = nI r ↔ R k = r) := fun k hk r hr => by
    obtain ⟨_, _, _, a, b⟩ := hS k hk
    rw [a]
    exact nI_eq (by omega) (by omega)
  have mono : ∀ i j, i ≤ j → j < n → R i ≤ R j := fun i j hi hj => by
    by_cases e : i = j
    · rw [e]; exact Nat.le_refl _
    · have := hR i j (by omega) hj; omega
  have mk : ∀ r, r < m → Mk alr en sta S R n r := fun r hr => by
    obtain ⟨⟨e, l, y1, y2, y3, _⟩, _⟩ := hE r hr
    obtain ⟨k, k1, k2⟩ := honto e y2 r hr y3
    have := h2 k k1
    rw [(row k k1 r hr).mp (by rw [k2]; exact y3)] at this
    obtain ⟨i', l', x1, x2, x3, x4, x5, x6, x7, x8, x9⟩ := this
    refine ⟨i', l', x1, x2, x3, x4, x5, x6, x7, x8, fun j hj hr => ?_⟩
    have := x9 j hj hr
    have a := hS j hj
    have b := hS l' x2
    rw [hal _ a.2.1 a.2.2.1, hal _ b.2.1 b.2.2.1] at this
    exact this
  have both : ∀ r, r < m → en (2 * r) = enr (2 * r) ∧ en (2 * r + 1) = enr (2 * r + 1) ∧ (∃ e, e < 1200 ∧ kd e = 2 ∧ en (2 * r) = nI e) ∧ ∃ e, e < 1200 ∧ kd e = 2 ∧ en (2 * r + 1) = nI e := by
    intro r hr
    obtain ⟨i, l, x1, x2, x3, x4, x5, x6, x7, x8, x9⟩ := mk r hr
    obtain ⟨⟨e, l', y1, y2, y3, y4, y5, y6, y7, y8⟩, _⟩ := hE r hr
    have si := hS i x1
    have sl := hS l x2
    refine ⟨?_, ?_, ⟨S i, si.2.1, si.2.2.1, x6⟩, ⟨S l, sl.2.1, sl.2.2.1, x7⟩⟩
    · rw [x6, y1]
      refine congrArg nI ?_
      rcases (y4 (S i) si.2.1 ((row i x1 r hr).mpr x4)).2 with q | q
      · exact q
      · exfalso
        obtain ⟨k, k1, k2⟩ := honto e y2 r hr y3
        have rk := (row k k1 r hr).mp (by rw [k2]; exact y3)
        rcases Nat.lt_trichotomy i k with z | z | z
        · rcases hR i k z k1 with u | ⟨_, u⟩
          · omega
          · rw [k2] at u; exact ahd_irr _ _ (ahd_tr u q)
        · rw [z, k2] at q; exact ahd_irr _ _ q
        · have := x5 k z; omega
    · rw [x7, y5]
      refine congrArg nI ?_
      obtain ⟨k, k1, k2⟩ := honto l' y6 r hr y7
      have rk := (row k k1 r hr).mp (by rw [k2]; exact y7)
      have a := x9 k k1 rk
      have b := y8 (S l) sl.2.1 ((row l x2 r hr).mpr x8)
      rw [k2] at a
      rw [Int32.lt_iff_toInt_lt, ← Int32.toInt_inj] at a b
      omega
  refine ⟨fun k hk => ?_, S, fun r => (sta r).toNatClampNeg, fun k hk => (hS k hk).1, ?_⟩
  · obtain ⟨b1, b2, b3, b4⟩ := both (k / 2) (by omega)
    by_cases c : k % 2 = 0
    · rw [show 2 * (k / 2) = k by omega] at b1 b3
      exact ⟨b1, b3⟩
    · rw [show 2 * (k / 2) + 1 = k by omega] at b2 b4
      exact ⟨b2, b4⟩
  have pm : (sta m).toNatClampNeg = n := by rw [h1, nI_clamp (by omega)]
  have pr : ∀ r, r < m → ∃ i, i < n ∧ sta r = nI i ∧ (sta r).toNatClampNeg = i ∧ R i = r ∧ ∀ j, j < i → R j < r := fun r hr => by
    obtain ⟨i, l, x1, x2, x3, x4, x5, _⟩ := mk r hr
    exact ⟨i, x1, x3, by rw [x3, nI_clamp (by omega)], x4, x5⟩
  have nxt : ∀ r, r < m → (sta (r + 1)).toNatClampNeg ≤ n ∧ ∀ k, k < n → (k < (sta (r + 1)).toNatClampNeg ↔ R k ≤ r) := fun r hr => by
    by_cases c : r + 1 = m
    · rw [c, pm]
      refine ⟨Nat.le_refl _, fun k hk => ?_⟩
      have := (hS k hk).2.2.2.2
      omega
    · obtain ⟨i, y1, y2, y3, y4, y5⟩ := pr (r + 1) (by omega)
      rw [y3]
      refine ⟨by omega, fun k hk => ⟨fun h => by have := y5 k h; omega, fun h => ?_⟩⟩
      rcases Nat.lt_or_ge k i with z | z
      · exact z
      · have := mono i k z hk; omega
  refine ⟨fun r hr => ?_, ?_, pm, fun r hr => ?_⟩
  · dsimp only
    by_cases c : r = m
    · rw [c, pm]; exact h1
    · obtain ⟨i, y1, y2, y3, _⟩ := pr r (by omega)
      rw [y3]; exact y2
  · dsimp only
    by_cases c : m = 0
    · have e : (sta 0).toNatClampNeg = n := by rw [c] at pm; exact pm
      rw [e]
      by_cases z : n = 0
      · exact z
      · have := (hS 0 (by omega)).2.2.2.2; omega
    · obtain ⟨i, y1, y2, y3, y4, y5⟩ := pr 0 (by omega)
      rw [y3]
      by_cases z : i = 0
      · exact z
      · have := y5 0 (by omega); omega
  · obtain ⟨i, y1, y2, y3, y4, y5⟩ := pr r hr
    obtain ⟨n1, n2⟩ := nxt r hr
    dsimp only
    rw [y3]
    generalize (sta (r + 1)).toNatClampNeg = q at n1 n2 ⊢
    have lt : i < q := (n2 i y1).mpr (by omega)
    have L : Lst (q - i) (fun j => S (i + j)) (ahd alr) (fun t => t < 1200 ∧ ro t = nI r) := by
      have rr : ∀ k, i ≤ k → k < q → R k = r := fun k h1 h2 => by
        have a := mono i k h1 (by omega)
        have b := (n2 k (by omega)).mp h2
        omega
      refine ⟨fun j hj => ?_, fun j j' hj hj' => ?_, fun t ht => ?_⟩
      · exact ⟨(hS (i + j) (by omega)).2.1, (row (i + j) (by omega) r hr).mpr (rr _ (by omega) (by omega))⟩
      · have a := rr (i + j) (by omega) (by omega)
        have b := rr (i + j') (by omega) (by omega)
        rcases hR (i + j) (i + j') (by omega) (by omega) with u | ⟨_, u⟩
        · omega
        · exact u
      · obtain ⟨k, k1, k2⟩ := honto t ht.1 r hr ht.2
        have rk := (row k k1 r hr).mp (by rw [k2]; exact ht.2)
        have a := (n2 k k1).mpr (by omega)
        have b : i ≤ k := by
          rcases Nat.lt_or_ge k i with z | z
          · have := y5 k z; omega
          · exact z
        exact ⟨k - i, by omega, by dsimp only; rw [show i + (k - i) = k by omega]; exact k2⟩
    refine ⟨lt, n1, ?_, L⟩
    rw [(hE r hr).2]
    exact congrArg nI (Lst_cnt L (ahd_irr alr) (fun s => by rw [decide_eq_true_eq]))
