/-- a loop that counts up to n; it may end earlier -/
theorem whileV_up {σ ρ : Type} {body : σ → Option (σ ⊕ ρ)} (n : Nat) (S : Nat → σ → Prop) (P : ρ → Prop)
    (hstep : ∀ k s, k < n → S k s → (∃ s', body s = some (.inl s') ∧ S (k + 1) s') ∨ ∃ r, body s = some (.inr r) ∧ P r) (hend : ∀ s, S n s → ∃ r, body s = some (.inr r) ∧ P r) :
    ∀ k s, k ≤ n → S k s → ∃ r, whileV body s = some r ∧ P r := by
  have key : ∀ d k s, k + d = n → S k s → ∃ r, whileV body s = some r ∧ P r := by
    intro d
    induction d with
    | zero =>
      intro k s hk hs
      have e : k = n := by omega
      subst e
      obtain ⟨r, h1, h2⟩ := hend s hs
      exact ⟨r, by rw [whileV_eq, h1], h2⟩
    | succ d ih =>
      intro k s hk hs
      rcases hstep k s (by omega) hs with ⟨s', h1, h2⟩ | ⟨r, h1, h2⟩
      · obtain ⟨r, h3, h4⟩ := ih (k + 1) s' (by omega) h2
        exact ⟨r, by rw [whileV_eq, h1]; exact h3, h4⟩
      · exact ⟨r, by rw [whileV_eq, h1], h2⟩
  intro k s hk hs
  exact key (n - k) k s (by omega) hs
theorem fill_ok (n : Nat) (hn : n < 2 ^ 31) (f : Ar) (v : Int32) : ∃ g, J7_fill_53178 n f v = some g ∧ ∀ k, g k = if k < n then v else f k := by
  unfold J7_fill_53178
  obtain ⟨r, h1, h2⟩ := whileV_up (body := fun st => J7_fill_53178_L5 n v (nI n) st.1 st.2) n (fun k st => st.2 = nI k ∧ ∀ j, st.1 j = if j < k then v else f j) (fun g => ∀ k, g k = if k < n then v else f k)
    (fun k s hk hs => by
      obtain ⟨g, i⟩ := s
      obtain ⟨rfl, hg⟩ := hs
      dsimp only at hg
      left
      refine ⟨(upd g k v, nI (k + 1)), ?_, rfl, fun j => ?_⟩
      · show J7_fill_53178_L5 n v (nI n) g (nI k) = _
        unfold J7_fill_53178_L5
        simp only [if_neg (nI_ge hk hn), ck_t (ix_nI hk hn), nm_eq, au_nI (show k < 2 ^ 31 by omega), nI_1]
      · show upd g k v j = _
        rw [upd_at]
        by_cases e : j = k
        · rw [if_pos e, if_pos (by omega)]
        · rw [if_neg e, hg j]
          by_cases h : j < k
          · rw [if_pos h, if_pos (by omega)]
          · rw [if_neg h, if_neg (by omega)])
    (fun s hs => by
      obtain ⟨g, i⟩ := s
      obtain ⟨rfl, hg⟩ := hs
      dsimp only at hg
      refine ⟨g, ?_, hg⟩
      show J7_fill_53178_L5 n v (nI n) g (nI n) = _
      unfold J7_fill_53178_L5
      rw [if_pos (nI_le (Nat.le_refl n) hn)]) 0 (f, 0) (Nat.zero_le n) ⟨rfl, fun j => by rw [if_neg (by omega)]⟩
  exact ⟨r, by simp only [nm_eq, h1, bnd_some], h2⟩
theorem forget_ok (f : Ar) : ∃ g, X7_forget f = some g ∧ ∀ k, g k = if k < 120 then 0 else f k := by
  have hn : (120 : Nat) < 2 ^ 31 := by decide
  unfold X7_forget
  obtain ⟨r, h1, h2⟩ := whileV_up (body := fun st => X7_forget_L2 st.1 st.2) 120 (fun k st => st.2 = nI k ∧ ∀ j, st.1 j = if j < k then 0 else f j) (fun g => ∀ k, g k = if k < 120 then 0 else f k)
    (fun k s hk hs => by
      obtain ⟨g, i⟩ := s
      obtain ⟨rfl, hg⟩ := hs
      dsimp only at hg
      left
      refine ⟨(upd g k 0, nI (k + 1)), ?_, rfl, fun j => ?_⟩
      · show X7_forget_L2 g (nI k) = _
        unfold X7_forget_L2
        rw [if_neg (show ¬ (120 : Int32) ≤ nI k from nI_ge hk hn)]
        simp only [ck_t (ix_nI hk hn), nm_eq, au_nI (show k < 2 ^ 31 by omega), nI_1, show vp_nar .boolean 0 = 0 from rfl]
      · show upd g k 0 j = _
        rw [upd_at]
        by_cases e : j = k
        · rw [if_pos e, if_pos (by omega)]
        · rw [if_neg e, hg j]
          by_cases h : j < k
          · rw [if_pos h, if_pos (by omega)]
          · rw [if_neg h, if_neg (by omega)])
    (fun s hs => by
      obtain ⟨g, i⟩ := s
      obtain ⟨rfl, hg⟩ := hs
      dsimp only at hg
      refine ⟨g, ?_, hg⟩
      show X7_forget_L2 g (nI 120) = _
      unfold X7_forget_L2
      rw [if_pos (show (120 : Int32) ≤ nI 120 from nI_le (Nat.le_refl 120) hn)]) 0 (f, 0) (Nat.zero_le 120) ⟨rfl, fun j => by rw [if_neg (by omega)]⟩
  exact ⟨r, by simp only [h1, bnd_some], h2⟩
theorem forgetRows_ok (a b c d : Int32) (kn : Ar) : ∃ kn2, X9_forgetRows a b c d kn = some (0, 0, 0, 0, kn2) ∧ ∀ k, k < 120 → kn2 k = 0 := by
  obtain ⟨g, h1, h2⟩ := forget_ok kn
  refine ⟨g, ?_, fun k hk => by rw [h2 k, if_pos hk]⟩
  unfold X9_forgetRows X2_forget X6_forget
  simp only [bnd_some, bnd_none, rmap_some, nm_eq, Sum.elim_inl, Sum.elim_inr, un2_mk, un3_mk, un4_mk, un5_mk, un6_mk, un7_mk, un8_mk, un9_mk, un10_mk, un11_mk, un12_mk, h1]
theorem forgetLand_ok (l1 l2 l3 l4 a b c d : Int32) (kn : Ar) : ∃ kn2, X9_forgetLand l1 l2 l3 l4 a b c d kn = some (0, 0, 0, 0, 0, 0, 0, 0, kn2) ∧ ∀ k, k < 120 → kn2 k = 0 := by
  obtain ⟨g, h1, h2⟩ := forgetRows_ok a b c d kn
  refine ⟨g, ?_, h2⟩
  unfold X9_forgetLand X0_forget
  simp only [bnd_some, bnd_none, rmap_some, nm_eq, Sum.elim_inl, Sum.elim_inr, un2_mk, un3_mk, un4_mk, un5_mk, un6_mk, un7_mk, un8_mk, un9_mk, un10_mk, un11_mk, un12_mk, h1]
theorem ring_of {x : Int32} : (∃ r : Nat, r < 4 ∧ x = nI r ∧ X9_needRing x = some (.inr ()) ∧ ¬ x < 0 ∧ x ≤ 3) ∨ (X9_needRing x = some (.inl 1) ∧ (x < 0 ∨ (¬ x < 0 ∧ ¬ x ≤ 3))) := by
  unfold X9_needRing
  by_cases h1 : x < 0
  · right; exact ⟨by simp [h1], Or.inl h1⟩
  by_cases h2 : x < 4
  · left
    obtain ⟨a, ha, rfl⟩ := nat_of (m := 4) (n := 4) rfl (by decide) h1 h2
    exact ⟨a, ha, rfl, by simp [h1, h2, rmap_some], h1, nI_le (show a ≤ 3 by omega) (by decide)⟩
  · right
    refine ⟨by simp [h1, h2], Or.inr ⟨h1, fun q => ?_⟩⟩
    obtain ⟨a, ha, rfl⟩ := nat_ofle (m := 3) (n := 3) rfl (by decide) h1 q
    exact h2 (nI_lt (show a < 4 by omega) (by decide))
theorem add12_ok {n : Int32} {fx fy : Ar} {r : Nat} {cx cy cn : Ar} (h : IRing n fx fy r cx cy cn) {x y : Nat} (hx : x ≤ 40) (hy : y ≤ 30) (hn : ¬ n = 12) (hr : r < 4) :
    ∃ k : Nat, k < 12 ∧ n = nI k ∧ cn r = nI k ∧ X1_isFull 12 n = some 0 ∧ X1_add 12 n fx fy (nI x) (nI y) = some (nI (k + 1), nI (k + 1), upd fx k (nI x), upd fy k (nI y)) ∧
      IRing (nI (k + 1)) (upd fx k (nI x)) (upd fy k (nI y)) r (upd cx (12 * r + k) (nI x)) (upd cy (12 * r + k) (nI y)) (upd cn r (nI (k + 1))) := by
  obtain ⟨k, hk, rfl, hc, hj⟩ := h
  have hk12 : k < 12 := by
    rcases Nat.lt_or_ge k 12 with q | q
    · exact q
    · exact absurd (show nI k = 12 by rw [show k = 12 by omega]; rfl) hn
  have c1 : nI k < nI 12 := nI_lt hk12 (by decide)
  have e0 : X1_isFull 12 (nI k) = some 0 := by unfold X1_isFull; rw [if_pos c1]
  refine ⟨k, hk12, rfl, hc, e0, ?_, k + 1, by omega, rfl, by rw [upd_at, if_pos rfl], fun j hj2 => ?_⟩
  · unfold X1_add X1_add_b37
    rw [e0]
    simp only [bnd_some, bnd_none, rmap_some, nm_eq, Sum.elim_inl, Sum.elim_inr, un2_mk, un3_mk, un4_mk, un5_mk, un6_mk, un7_mk, un8_mk, un9_mk, un10_mk, un11_mk, un12_mk, if_pos, ck_t (ix_nI hk12 (show 12 < 2 ^ 31 by decide)), au_nI (show k < 2 ^ 31 by omega), nI_1]
  · rw [upd_at, upd_at, upd_at, upd_at]
    by_cases e : j = k
    · rw [if_pos e, if_pos e, if_pos (by omega), if_pos (by omega)]
      exact ⟨rfl, rfl, ⟨x, hx, rfl⟩, y, hy, rfl⟩
    · rw [if_neg e, if_neg e, if_neg (by omega), if_neg (by omega)]
      exact hj j (by omega)
/-- another ring doesn't change -/
theorem ring_other {n : Int32} {fx fy : Ar} {r : Nat} {cx cy cn : Ar} (h : IRing n fx fy r cx cy cn) {q k : Nat} (hq : q ≠ r) (hk : k < 12) {a b c : Int32} : IRing n fx fy r (upd cx (12 * q + k) a) (upd cy (12 * q + k) b) (upd cn q c) := by
  obtain ⟨m, hm, rfl, hc, hj⟩ := h
  refine ⟨m, hm, rfl, by rw [upd_at, if_neg (Ne.symm hq)]; exact hc, fun j hj2 => ?_⟩
  rw [upd_at, upd_at, if_neg (by omega), if_neg (by omega)]
  exact hj j hj2
theorem ring_other2 {n : Int32} {fx fy : Ar} {r : Nat} {cx cy cn : Ar} (h : IRing n fx fy r cx cy cn) {q : Nat} (hq : q ≠ r) {c : Int32} : IRing n fx fy r cx cy (upd cn q c) := by
  obtain ⟨m, hm, rfl, hc, hj⟩ := h
  exact ⟨m, hm, rfl, by rw [upd_at, if_neg (Ne.symm hq)]; exact hc, hj⟩
theorem ring_clear {fx fy : Ar} {r : Nat} {cx cy cn : Ar} : IRing 0 fx fy r cx cy (upd cn r 0) := ⟨0, by omega, rfl, by rw [upd_at, if_pos rfl]; rfl, fun j hj => by omega⟩
