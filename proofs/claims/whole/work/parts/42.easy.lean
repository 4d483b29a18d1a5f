theorem isSlant_eq (a b : Int32) : X10_isSlant a b = X9_isSlant a b := rfl
theorem isSlant_ok {a b : Int32} : (X9_isSlant a b = some 1 ∧ slOK a b) ∨ (X9_isSlant a b = some 0 ∧ ¬ slOK a b) := by
  unfold X9_isSlant X9_isSlant_b32 slOK
  by_cases h1 : a < -9
  · right; simp [h1]
  by_cases h2 : 9 < a
  · right; simp [h1, h2]
  by_cases h3 : b < -9
  · right; simp [h1, h2, h3]
  by_cases h4 : 9 < b
  · right; simp [h1, h2, h3, h4]
  by_cases h5 : a = 0
  · by_cases h6 : b = 0
    · right; subst h5; subst h6; simp
    · left; simp [h1, h2, h3, h4, h6]
  · left; simp [h1, h2, h3, h4, h5]
theorem m_slant {n n' : Int32} {A B A' B' : Ar} (h : ISlant n A B n' A' B') (t x1 x2 : Int32) :
    ∃ (r n2 : Int32) (A2 B2 : Ar), X9_slant n A B x1 x2 = some (r, n2, A2, B2) ∧ ∃ (b th n3 : Int32) (A3 B3 : Ar), X10_slant t n' A' B' x1 x2 = some (b, th, n3, A3, B3) ∧ r = b ∧ ISlant n2 A2 B2 n3 A3 B3 := by
  obtain ⟨rfl, k, hk, rfl, hj⟩ := h
  unfold X9_slant X10_slant X1_isFull
  rw [isSlant_eq]
  rcases isSlant_ok (a := x1) (b := x2) with ⟨e, hs⟩ | ⟨e, hs⟩
  · rw [e]
    by_cases h5 : k = 5
    · subst h5
      refine ⟨-1, nI 5, A, B, by simp only [bnd_some]; rfl, -1, 0, nI 5, A', B', by rw [if_pos (show nI 5 = 5 from rfl)], rfl, rfl, 5, Nat.le_refl 5, rfl, hj⟩
    · have hk5 : k < 5 := by omega
      have c1 : nI k < nI 5 := nI_lt hk5 (by decide)
      have c2 : ¬ nI k = 5 := fun q => h5 ((nI_eq (by omega) (by decide)).mp q)
      unfold X1_add X1_isFull X1_add_b37
      simp only [bnd_some, if_pos c1, if_neg c2, if_neg (show ¬ (1 : Int32) = 0 by decide), if_pos rfl, ck_t (ix_nI hk5 (by decide)), nm_eq, au_nI (show k < 2 ^ 31 by omega), nI_1]
      refine ⟨_, _, _, _, rfl, _, _, _, _, _, rfl, rfl, rfl, k + 1, by omega, rfl, fun j hj2 => ?_⟩
      dsimp only
      rw [upd_at, upd_at, upd_at, upd_at]
      by_cases hjk : j = k
      · rw [if_pos hjk, if_pos hjk, if_pos hjk, if_pos hjk]; exact ⟨rfl, rfl, hs⟩
      · rw [if_neg hjk, if_neg hjk, if_neg hjk, if_neg hjk]; exact hj j (by omega)
  · rw [e]
    simp only [bnd_some, if_pos rfl]
    by_cases h5 : nI k = 5
    · simp only [if_pos h5]
      exact ⟨_, _, _, _, rfl, _, _, _, _, _, rfl, rfl, rfl, k, hk, rfl, hj⟩
    · simp only [if_neg h5]
      exact ⟨_, _, _, _, rfl, _, _, _, _, _, rfl, rfl, rfl, k, hk, rfl, hj⟩
theorem m_unslant {n n' : Int32} {A B A' B' : Ar} (h : ISlant n A B n' A' B') (t : Int32) :
    ∃ r n2 : Int32, X9_unslant n = some (r, n2) ∧ ∃ b th n3 : Int32, X10_unslant t n' = some (b, th, n3) ∧ r = b ∧ ISlant n2 A B n3 A' B' := by
  obtain ⟨rfl, k, hk, rfl, hj⟩ := h
  exact ⟨nI k, 0, rfl, nI k, 0, 0, rfl, rfl, rfl, 0, by omega, rfl, fun j hj => by omega⟩
theorem isSquare_ok (x y : Int32) : (∃ a b : Nat, a < 40 ∧ b < 30 ∧ x = nI a ∧ y = nI b ∧ X9_isSquare x y = some 1 ∧ X10_noSquare x y = some 0) ∨ (X9_isSquare x y = some 0 ∧ X10_noSquare x y = some 1) := by
  unfold X9_isSquare X10_noSquare X10_noSquare_b20
  simp only [le32]
  by_cases h1 : x < 0
  · right; simp [h1]
  by_cases h2 : x < 40
  · by_cases h3 : y < 0
    · right; simp [h1, h2, h3]
    by_cases h4 : y < 30
    · left
      obtain ⟨a, ha, rfl⟩ := nat_of (m := 40) (n := 40) rfl (by decide) h1 h2
      obtain ⟨b, hb, rfl⟩ := nat_of (m := 30) (n := 30) rfl (by decide) h3 h4
      exact ⟨a, b, ha, hb, rfl, rfl, by simp [h1, h2, h3, h4], by simp [h1, h2, h3, h4]⟩
    · right; simp [h1, h2, h3, h4]
  · right
    by_cases h3 : y < 0
    · simp [h1, h2, h3]
    · simp [h1, h2, h3]
theorem squareAt_nI (a b : Nat) : X9_squareAt (nI a) (nI b) = some (nI (40 * b + a)) := by
  unfold X9_squareAt
  rw [show (40 : Int32) = nI 40 from rfl, pk_mul, nI_add]

theorem m_yields {crop bear find plc : Ar} {cap wt un : Int32} {Y B S Wg : Ar} {cap' wt' un' : Int32} (h : IReap crop bear find plc cap wt un Y B S Wg cap' wt' un') (t x1 x2 x3 : Int32) :
    (∃ c2, X9_yields crop x1 x2 x3 = some (.inr c2) ∧ ∃ th Y2, X10_yields t Y x1 x2 x3 = some (th, Y2) ∧ th = 0 ∧ IReap c2 bear find plc cap wt un Y2 B S Wg cap' wt' un') ∨
    (X9_yields crop x1 x2 x3 = some (.inl 1) ∧ ∃ th Y2, X10_yields t Y x1 x2 x3 = some (th, Y2) ∧ th = 1 ∧ IReap crop bear find plc cap wt un Y2 B S Wg cap' wt' un') ∨
    (X9_yields crop x1 x2 x3 = some (.inl 2) ∧ ∃ th Y2, X10_yields t Y x1 x2 x3 = some (th, Y2) ∧ th = 2 ∧ IReap crop bear find plc cap wt un Y2 B S Wg cap' wt' un') := by
  unfold X9_yields X9_needSquare X10_yields X10_yields_b30 X10_yields_b35 X10_throwsIf
  rcases isSquare_ok x1 x2 with ⟨a, b, ha, hb, rfl, rfl, e1, e2⟩ | ⟨e1, e2⟩
  · rw [e1, e2]
    by_cases h3 : x3 < 0
    · right; right
      refine ⟨by simp [bnd_some, h3, rmap_some], 2, Y, by simp [bnd_some, bnd_none, rmap_some, nm_eq, Sum.elim_inl, Sum.elim_inr, un2_mk, un3_mk, un4_mk, un5_mk, un6_mk, un7_mk, un8_mk, un9_mk, un10_mk, un11_mk, un12_mk, h3, ck, bl], rfl, h⟩
    by_cases h4 : x3 ≤ 1000
    · left
      obtain ⟨v, hv, rfl⟩ := nat_ofle (m := 1000) (n := 1000) rfl (by decide) h3 h4
      have hi : 40 * b + a < 1200 := by omega
      refine ⟨upd crop (40 * b + a) (nI v), ?_, 0, upd Y (40 * b + a) (nI v), ?_, rfl, ?_⟩
      · simp only [bnd_some, if_neg (show ¬ (1 : Int32) = 0 by decide), rmap_some, Sum.elim_inr, if_neg h3, if_pos h4, squareAt_nI, ck_t (ix_nI hi (by decide)), nm_eq, au_nI (show 40 * b + a < 2 ^ 31 by omega)]
      · simp only [bnd_some, bnd_none, rmap_some, nm_eq, Sum.elim_inl, Sum.elim_inr, un2_mk, un3_mk, un4_mk, un5_mk, un6_mk, un7_mk, un8_mk, un9_mk, un10_mk, un11_mk, un12_mk, if_pos, ck_t (show bl 0 = true from rfl), if_neg h3, if_pos h4]
        rw [show (40 : Int32) = nI 40 from rfl, pk_mul, nI_add]
        simp only [bnd_some, bnd_none, rmap_some, nm_eq, Sum.elim_inl, Sum.elim_inr, un2_mk, un3_mk, un4_mk, un5_mk, un6_mk, un7_mk, un8_mk, un9_mk, un10_mk, un11_mk, un12_mk, ck_t (show bl 0 = true from rfl), if_pos, ck_t (ix_nI hi (by decide)), au_nI (show 40 * b + a < 2 ^ 31 by omega)]
      · obtain ⟨h1, h2⟩ := h
        refine ⟨fun k hk => ?_, h2⟩
        rw [upd_at, upd_at]
        by_cases e : k = 40 * b + a
        · rw [if_pos e, if_pos e]; exact ⟨rfl, v, hv, rfl⟩
        · rw [if_neg e, if_neg e]; exact h1 k hk
    · right; right
      refine ⟨by simp [bnd_some, h3, h4, rmap_some], 2, Y, by simp [bnd_some, bnd_none, rmap_some, nm_eq, Sum.elim_inl, Sum.elim_inr, un2_mk, un3_mk, un4_mk, un5_mk, un6_mk, un7_mk, un8_mk, un9_mk, un10_mk, un11_mk, un12_mk, h3, h4, ck, bl], rfl, h⟩
  · rw [e1, e2]
    right; left
    exact ⟨by simp [bnd_some], 1, Y, by simp [bnd_some, bnd_none, rmap_some, nm_eq, Sum.elim_inl, Sum.elim_inr, un2_mk, un3_mk, un4_mk, un5_mk, un6_mk, un7_mk, un8_mk, un9_mk, un10_mk, un11_mk, un12_mk, ck, bl], rfl, h⟩
theorem m_bears {crop bear find plc : Ar} {cap wt un : Int32} {Y B S Wg : Ar} {cap' wt' un' : Int32} (h : IReap crop bear find plc cap wt un Y B S Wg cap' wt' un') (t x1 x2 x3 : Int32) :
    (∃ c2, X9_bears bear x1 x2 x3 = some (.inr c2) ∧ ∃ th Y2, X10_bears t B x1 x2 x3 = some (th, Y2) ∧ th = 0 ∧ IReap crop c2 find plc cap wt un Y Y2 S Wg cap' wt' un') ∨
    (X9_bears bear x1 x2 x3 = some (.inl 1) ∧ ∃ th Y2, X10_bears t B x1 x2 x3 = some (th, Y2) ∧ th = 1 ∧ IReap crop bear find plc cap wt un Y Y2 S Wg cap' wt' un') ∨
    (X9_bears bear x1 x2 x3 = some (.inl 2) ∧ ∃ th Y2, X10_bears t B x1 x2 x3 = some (th, Y2) ∧ th = 2 ∧ IReap crop bear find plc cap wt un Y Y2 S Wg cap' wt' un') := by
  unfold X9_bears X9_needSquare X10_bears X10_bears_b29 X10_bears_b34 X10_throwsIf
  rcases isSquare_ok x1 x2 with ⟨a, b, ha, hb, rfl, rfl, e1, e2⟩ | ⟨e1, e2⟩
  · rw [e1, e2]
    by_cases h3 : x3 < 0
    · right; right
      refine ⟨by simp [bnd_some, h3, rmap_some], 2, B, by simp [bnd_some, bnd_none, rmap_some, nm_eq, Sum.elim_inl, Sum.elim_inr, un2_mk, un3_mk, un4_mk, un5_mk, un6_mk, un7_mk, un8_mk, un9_mk, un10_mk, un11_mk, un12_mk, h3, ck, bl], rfl, h⟩
    by_cases h4 : x3 ≤ 1000000
    · left
      obtain ⟨v, hv, rfl⟩ := nat_ofle (m := 1000000) (n := 1000000) rfl (by decide) h3 h4
      have hi : 40 * b + a < 1200 := by omega
      refine ⟨upd bear (40 * b + a) (nI v), ?_, 0, upd B (40 * b + a) (nI v), ?_, rfl, ?_⟩
      · simp only [bnd_some, if_neg (show ¬ (1 : Int32) = 0 by decide), rmap_some, Sum.elim_inr, if_neg h3, if_pos h4, squareAt_nI, ck_t (ix_nI hi (by decide)), nm_eq, au_nI (show 40 * b + a < 2 ^ 31 by omega)]
      · simp only [bnd_some, bnd_none, rmap_some, nm_eq, Sum.elim_inl, Sum.elim_inr, un2_mk, un3_mk, un4_mk, un5_mk, un6_mk, un7_mk, un8_mk, un9_mk, un10_mk, un11_mk, un12_mk, if_pos, ck_t (show bl 0 = true from rfl), if_neg h3, if_pos h4]
        rw [show (40 : Int32) = nI 40 from rfl, pk_mul, nI_add]
        simp only [bnd_some, bnd_none, rmap_some, nm_eq, Sum.elim_inl, Sum.elim_inr, un2_mk, un3_mk, un4_mk, un5_mk, un6_mk, un7_mk, un8_mk, un9_mk, un10_mk, un11_mk, un12_mk, ck_t (show bl 0 = true from rfl), if_pos, ck_t (ix_nI hi (by decide)), au_nI (show 40 * b + a < 2 ^ 31 by omega)]
      · obtain ⟨h0, h1, h2⟩ := h
        refine ⟨h0, fun k hk => ?_, h2⟩
        rw [upd_at, upd_at]
        by_cases e : k = 40 * b + a
        · rw [if_pos e, if_pos e]; exact ⟨rfl, v, hv, rfl⟩
        · rw [if_neg e, if_neg e]; exact h1 k hk
    · right; right
      refine ⟨by simp [bnd_some, h3, h4, rmap_some], 2, B, by simp [bnd_some, bnd_none, rmap_some, nm_eq, Sum.elim_inl, Sum.elim_inr, un2_mk, un3_mk, un4_mk, un5_mk, un6_mk, un7_mk, un8_mk, un9_mk, un10_mk, un11_mk, un12_mk, h3, h4, ck, bl], rfl, h⟩
  · rw [e1, e2]
    right; left
    exact ⟨by simp [bnd_some], 1, B, by simp [bnd_some, bnd_none, rmap_some, nm_eq, Sum.elim_inl, Sum.elim_inr, un2_mk, un3_mk, un4_mk, un5_mk, un6_mk, un7_mk, un8_mk, un9_mk, un10_mk, un11_mk, un12_mk, ck, bl], rfl, h⟩
theorem m_look {find S : Ar} (h : ∀ j, j < 8 → find j = S j) (t x1 : Int32) :
    (∃ r, X9_look find x1 = some (.inr r) ∧ ∃ b th, X10_look t S x1 = some (b, th) ∧ th = 0 ∧ r = b) ∨
    (X9_look find x1 = some (.inl 5) ∧ ∃ b th, X10_look t S x1 = some (b, th) ∧ th = 1) := by
  unfold X9_look X10_look X10_look_b16 X10_look_b21 X10_throwsIf
  by_cases h1 : x1 < 0
  · right; exact ⟨by simp [h1], 0, 1, by simp [h1, bnd_some, bnd_none, rmap_some, nm_eq, Sum.elim_inl, Sum.elim_inr, un2_mk, un3_mk, un4_mk, un5_mk, un6_mk, un7_mk, un8_mk, un9_mk, un10_mk, un11_mk, un12_mk, ck, bl], rfl⟩
  by_cases h2 : x1 < 8
  · left
    obtain ⟨a, ha, rfl⟩ := nat_of (m := 8) (n := 8) rfl (by decide) h1 h2
    have h3 : nI a ≤ 7 := nI_le (show a ≤ 7 by omega) (by decide)
    refine ⟨find a, ?_, S a, 0, ?_, rfl, h a ha⟩
    · simp only [if_neg h1, if_pos h2, ck_t (ix_nI ha (by decide)), ag, nI_clamp (show a < 2 ^ 31 by omega), rmap_some]
    · simp only [if_neg h1, if_pos h3, if_pos, ck_t (show bl 0 = true from rfl), bnd_some, bnd_none, rmap_some, nm_eq, Sum.elim_inl, Sum.elim_inr, un2_mk, un3_mk, un4_mk, un5_mk, un6_mk, un7_mk, un8_mk, un9_mk, un10_mk, un11_mk, un12_mk, ck_t (ix_nI ha (by decide)), ag, nI_clamp (show a < 2 ^ 31 by omega)]
  · right
    have h3 : ¬ x1 ≤ 7 := by
      intro q
      obtain ⟨a, ha, rfl⟩ := nat_ofle (m := 7) (n := 7) rfl (by decide) h1 q
      exact h2 (nI_lt (show a < 8 by omega) (by decide))
    exact ⟨by simp [h1, h2], 0, 1, by simp [h1, h3, bnd_some, bnd_none, rmap_some, nm_eq, Sum.elim_inl, Sum.elim_inr, un2_mk, un3_mk, un4_mk, un5_mk, un6_mk, un7_mk, un8_mk, un9_mk, un10_mk, un11_mk, un12_mk, ck, bl], rfl⟩
theorem m_wagon {find plc S Wg : Ar} {w : Nat} (hw : w ≤ 1200) (h4 : find 4 = nI w) (h8 : ∀ j, j < 8 → find j = S j) (h : ∀ k, k < w → plc k = Wg k) (t x1 : Int32) :
    ∃ r, X9_wagon find plc x1 = some r ∧ ∃ b th, X10_wagon t S Wg x1 = some (b, th) ∧ r = b := by
  unfold X9_wagon X10_wagon X10_wagon_b19
  have e1 : ag find 4 = nI w := h4
  have e2 : ag S 4 = nI w := (h8 4 (by decide)).symm.trans h4
  by_cases h1 : x1 < 0
  · exact ⟨-1, by simp [h1], -1, 0, by simp [h1], rfl⟩
  rw [e1, e2, ck_t (show ix 4 8 = true from rfl), ck_t (show ix 4 8 = true from rfl), if_neg h1, if_neg h1]
  simp only [le32]
  by_cases h2 : x1 < nI w
  · obtain ⟨a, ha, rfl⟩ := nat_of (m := nI w) (n := w) rfl (by omega) h1 h2
    have ha2 : a < 1200 := by omega
    refine ⟨plc a, ?_, Wg a, 0, ?_, h a ha⟩
    · simp [h2, ck_t (ix_nI ha2 (by decide)), ag, nI_clamp (show a < 2 ^ 31 by omega)]
    · simp [h2, ck_t (ix_nI ha2 (by decide)), ag, nI_clamp (show a < 2 ^ 31 by omega)]
  · exact ⟨-1, by simp [h2], -1, 0, by simp [h2], rfl⟩
theorem m_reaper {crop bear find plc : Ar} {cap wt un : Int32} {Y B S Wg : Ar} {cap' wt' un' : Int32} (h : IReap crop bear find plc cap wt un Y B S Wg cap' wt' un') (t x1 x2 x3 : Int32) :
    (∃ c w u, X9_reaper cap wt un x1 x2 x3 = some (.inr (c, w, u)) ∧ ∃ th c2 w2 u2, X10_reaper t cap' wt' un' x1 x2 x3 = some (th, c2, w2, u2) ∧ th = 0 ∧ IReap crop bear find plc c w u Y B S Wg c2 w2 u2) ∨
    (X9_reaper cap wt un x1 x2 x3 = some (.inl 2) ∧ ∃ th c2 w2 u2, X10_reaper t cap' wt' un' x1 x2 x3 = some (th, c2, w2, u2) ∧ th = 1 ∧ IReap crop bear find plc cap wt un Y B S Wg c2 w2 u2) := by
  unfold X9_reaper X10_reaper X10_reaper_b38 X10_reaper_b43 X10_throwsIf
  simp only [le32]
  by_cases h1 : x1 < 1
  · right; exact ⟨by simp [h1], 1, cap', wt', un', by simp [h1, bnd_some, bnd_none, rmap_some, nm_eq, Sum.elim_inl, Sum.elim_inr, un2_mk, un3_mk, un4_mk, un5_mk, un6_mk, un7_mk, un8_mk, un9_mk, un10_mk, un11_mk, un12_mk, ck, bl], rfl, h⟩
  by_cases h2 : 100000 < x1
  · right; exact ⟨by simp [h1, h2], 1, cap', wt', un', by simp [h1, h2, bnd_some, bnd_none, rmap_some, nm_eq, Sum.elim_inl, Sum.elim_inr, un2_mk, un3_mk, un4_mk, un5_mk, un6_mk, un7_mk, un8_mk, un9_mk, un10_mk, un11_mk, un12_mk, ck, bl], rfl, h⟩
  by_cases h3 : x2 < 0
  · right; exact ⟨by simp [h1, h2, h3], 1, cap', wt', un', by simp [h1, h2, h3, bnd_some, bnd_none, rmap_some, nm_eq, Sum.elim_inl, Sum.elim_inr, un2_mk, un3_mk, un4_mk, un5_mk, un6_mk, un7_mk, un8_mk, un9_mk, un10_mk, un11_mk, un12_mk, ck, bl], rfl, h⟩
  by_cases h4 : 1000000 < x2
  · right; exact ⟨by simp [h1, h2, h3, h4], 1, cap', wt', un', by simp [h1, h2, h3, h4, bnd_some, bnd_none, rmap_some, nm_eq, Sum.elim_inl, Sum.elim_inr, un2_mk, un3_mk, un4_mk, un5_mk, un6_mk, un7_mk, un8_mk, un9_mk, un10_mk, un11_mk, un12_mk, ck, bl], rfl, h⟩
  by_cases h5 : x3 < 0
  · right; exact ⟨by simp [h1, h2, h3, h4, h5], 1, cap', wt', un', by simp [h1, h2, h3, h4, h5, bnd_some, bnd_none, rmap_some, nm_eq, Sum.elim_inl, Sum.elim_inr, un2_mk, un3_mk, un4_mk, un5_mk, un6_mk, un7_mk, un8_mk, un9_mk, un10_mk, un11_mk, un12_mk, ck, bl], rfl, h⟩
  by_cases h6 : 1000 < x3
  · right; exact ⟨by simp [h1, h2, h3, h4, h5, h6], 1, cap', wt', un', by simp [h1, h2, h3, h4, h5, h6, bnd_some, bnd_none, rmap_some, nm_eq, Sum.elim_inl, Sum.elim_inr, un2_mk, un3_mk, un4_mk, un5_mk, un6_mk, un7_mk, un8_mk, un9_mk, un10_mk, un11_mk, un12_mk, ck, bl], rfl, h⟩
  left
  have h0 : ¬ x1 < 0 := by
    intro q
    apply h1
    rw [Int32.lt_iff_toInt_lt] at q ⊢
    have a0 : (0 : Int32).toInt = 0 := rfl
    have a1 : (1 : Int32).toInt = 1 := rfl
    omega
  obtain ⟨v1, hv1, rfl⟩ := nat_ofle (m := 100000) (n := 100000) rfl (by decide) h0 ((le32 _ _).mpr h2)
  obtain ⟨v2, hv2, rfl⟩ := nat_ofle (m := 1000000) (n := 1000000) rfl (by decide) h3 ((le32 _ _).mpr h4)
  obtain ⟨v3, hv3, rfl⟩ := nat_ofle (m := 1000) (n := 1000) rfl (by decide) h5 ((le32 _ _).mpr h6)
  obtain ⟨g1, g2, g3, g4, g5, g6⟩ := h
  exact ⟨nI v1, nI v2, nI v3, by simp [h1, h2, h3, h4, h5, h6, bnd_some, bnd_none, rmap_some, nm_eq, Sum.elim_inl, Sum.elim_inr, un2_mk, un3_mk, un4_mk, un5_mk, un6_mk, un7_mk, un8_mk, un9_mk, un10_mk, un11_mk, un12_mk], 0, nI v1, nI v2, nI v3, by simp [h1, h2, h3, h4, h5, h6, bnd_some, bnd_none, rmap_some, nm_eq, Sum.elim_inl, Sum.elim_inr, un2_mk, un3_mk, un4_mk, un5_mk, un6_mk, un7_mk, un8_mk, un9_mk, un10_mk, un11_mk, un12_mk, ck, bl], rfl, g1, g2, ⟨rfl, v1, hv1, rfl⟩, ⟨rfl, v2, hv2, rfl⟩, ⟨rfl, v3, hv3, rfl⟩, g6⟩
