/-! counting sort -/
theorem cnt_add {p q r : Nat → Bool} {n : Nat} (h : ∀ i, i < n → (r i = true ↔ p i = true ∨ q i = true) ∧ ¬ (p i = true ∧ q i = true)) : cnt r n = cnt p n + cnt q n := by
  induction n with
  | zero => rfl
  | succ n ih =>
    unfold cnt
    rw [ih (fun i hi => h i (by omega))]
    have := h n (by omega)
    cases hp : p n <;> cases hq : q n <;> cases hr : r n <;> simp [hp, hq, hr] at this ⊢ <;> omega
theorem cnt_succ (p : Nat → Bool) (n : Nat) : cnt p (n + 1) = cnt p n + if p n then 1 else 0 := rfl
theorem cnt_up (p : Nat → Bool) {k n : Nat} (h : k ≤ n) : cnt p k ≤ cnt p n := by
  induction n with
  | zero => rw [show k = 0 by omega]; exact Nat.le_refl _
  | succ n ih =>
    by_cases e : k = n + 1
    · rw [e]; exact Nat.le_refl _
    · have := ih (by omega)
      rw [cnt_succ]
      omega
theorem cnt_lt {p : Nat → Bool} {k n : Nat} (h : k < n) (hp : p k = true) : cnt p k < cnt p n := by
  have := cnt_up p (show k + 1 ≤ n by omega)
  have e : cnt p (k + 1) = cnt p k + 1 := by rw [cnt_succ, if_pos hp]
  omega
/-- where the k-th goes -/
def posK (kn : Nat → Nat) (n k : Nat) : Nat := cnt (fun j => decide (kn j < kn k)) n + cnt (fun j => decide (kn j = kn k)) k
theorem posK_lt {kn : Nat → Nat} {n k : Nat} (h : k < n) : posK kn n k < cnt (fun j => decide (kn j ≤ kn k)) n := by
  unfold posK
  have a := cnt_add (n := n) (p := fun j => decide (kn j < kn k)) (q := fun j => decide (kn j = kn k)) (r := fun j => decide (kn j ≤ kn k)) (fun i _ => by simp only [decide_eq_true_eq]; omega)
  have b := cnt_lt (p := fun j => decide (kn j = kn k)) h (decide_eq_true rfl)
  omega
theorem posK_n {kn : Nat → Nat} {n k : Nat} (h : k < n) : posK kn n k < n := Nat.lt_of_lt_of_le (posK_lt h) (cnt_le _ _)
theorem posK_mono {kn : Nat → Nat} {n k k' : Nat} (h : k < n) (h' : k' < n) (hl : kn k < kn k' ∨ (kn k = kn k' ∧ k < k')) : posK kn n k < posK kn n k' := by
  rcases hl with hl | ⟨he, hl⟩
  · have a := posK_lt h (kn := kn)
    have b : cnt (fun j => decide (kn j ≤ kn k)) n ≤ cnt (fun j => decide (kn j < kn k')) n := cnt_mono (fun s _ hs => by simp only [decide_eq_true_eq] at hs ⊢; omega)
    unfold posK at a ⊢
    omega
  · unfold posK
    rw [he]
    have b := cnt_lt (p := fun j => decide (kn j = kn k')) hl (decide_eq_true he)
    omega
theorem tally1 {keys fr : Ar} {n : Nat} {F kn : Nat → Nat} (hn : n ≤ 1200) (hF : ∀ k, k < n → fr k = nI (F k) ∧ F k < 1200 ∧ keys (F k) + 1242 = nI (kn k) ∧ kn k ≤ 2484) (t0 : Ar) (h0 : ∀ c, c < 2486 → t0 c = 0) :
    ∃ t1, whileV (fun st => X6_sortBy_L11 keys fr (nI n) st.1 st.2) (t0, 0) = some t1 ∧ ∀ c, c < 2486 → t1 c = nI (cnt (fun k => decide (kn k + 1 = c)) n) := by
  obtain ⟨r, h1, h2⟩ := whileV_up (body := fun st => X6_sortBy_L11 keys fr (nI n) st.1 st.2) n
    (fun k st => st.2 = nI k ∧ ∀ c, c < 2486 → st.1 c = nI (cnt (fun k => decide (kn k + 1 = c)) k)) (fun r => ∀ c, c < 2486 → r c = nI (cnt (fun k => decide (kn k + 1 = c)) n))
    (fun k st hk hs => by
      obtain ⟨t, i⟩ := st
      obtain ⟨rfl, q⟩ := hs
      dsimp only at q
      left
      obtain ⟨f1, f2, f3, f4⟩ := hF k hk
      have ag1 : ag fr (nI k) = nI (F k) := by rw [ag_nI (by omega), f1]
      have ag2 : ag keys (nI (F k)) + 1242 + 1 = nI (kn k + 1) := by rw [ag_nI (by omega), f3, nI_1]
      have ag3 : ag t (nI (kn k + 1)) = nI (cnt (fun j => decide (kn j + 1 = kn k + 1)) k) := by rw [ag_nI (by omega), q _ (by omega)]
      have au1 : ∀ x, au t (nI (kn k + 1)) x = upd t (kn k + 1) x := fun x => au_nI (by omega)
      refine ⟨(upd t (kn k + 1) (nI (cnt (fun j => decide (kn j + 1 = kn k + 1)) k + 1)), nI (k + 1)), ?_, rfl, fun c hc => ?_⟩
      · show X6_sortBy_L11 keys fr (nI n) t (nI k) = _
        unfold X6_sortBy_L11
        simp only [if_neg (nI_ge hk (show n < 2 ^ 31 by omega)), ck_t (ix_nI (show k < 1200 by omega) (show 1200 < 2 ^ 31 by decide)), ag1, ck_t (ix_nI f2 (show 1200 < 2 ^ 31 by decide)), ag2, ck_t (ix_nI (show kn k + 1 < 2486 by omega) (show 2486 < 2 ^ 31 by decide)), ag3, au1, bnd_some, bnd_none, rmap_some, nm_eq, Sum.elim_inl, Sum.elim_inr, un2_mk, un3_mk, un4_mk, un5_mk, un6_mk, un7_mk, un8_mk, un9_mk, un10_mk, un11_mk, un12_mk, nI_1]
      · show upd t (kn k + 1) _ c = _
        rw [upd_at]
        by_cases e : c = kn k + 1
        · rw [if_pos e, e]
          show _ = nI (cnt (fun j => decide (kn j + 1 = kn k + 1)) k + if decide (kn k + 1 = kn k + 1) = true then 1 else 0)
          rw [if_pos (decide_eq_true rfl)]
        · rw [if_neg e, q c hc]
          show _ = nI (cnt (fun j => decide (kn j + 1 = c)) k + if decide (kn k + 1 = c) = true then 1 else 0)
          rw [if_neg (by rw [decide_eq_true_eq]; exact Ne.symm e)]
          rfl)
    (fun st hs => by
      obtain ⟨t, i⟩ := st
      obtain ⟨rfl, q⟩ := hs
      refine ⟨t, ?_, q⟩
      show X6_sortBy_L11 keys fr (nI n) t (nI n) = _
      unfold X6_sortBy_L11
      rw [if_pos (nI_le (Nat.le_refl n) (by omega))]) 0 (t0, 0) (by omega) ⟨rfl, fun c hc => by rw [show cnt (fun k => decide (kn k + 1 = c)) 0 = 0 from rfl]; exact h0 c hc⟩
  exact ⟨r, h1, h2⟩
theorem tally2 {n : Nat} {kn : Nat → Nat} (hn : n ≤ 1200) (t1 : Ar) (h1 : ∀ c, c < 2486 → t1 c = nI (cnt (fun k => decide (kn k + 1 = c)) n)) :
    ∃ t2, whileV (fun st => X6_sortBy_L53 st.1 st.2) (t1, 1) = some t2 ∧ ∀ c, c < 2486 → t2 c = nI (cnt (fun k => decide (kn k < c)) n) := by
  obtain ⟨r, g1, g2⟩ := whileV_up (body := fun st => X6_sortBy_L53 st.1 st.2) 2486
    (fun v st => st.2 = nI v ∧ 0 < v ∧ (∀ c, c < v → c < 2486 → st.1 c = nI (cnt (fun k => decide (kn k < c)) n)) ∧ ∀ c, v ≤ c → c < 2486 → st.1 c = nI (cnt (fun k => decide (kn k + 1 = c)) n))
    (fun r => ∀ c, c < 2486 → r c = nI (cnt (fun k => decide (kn k < c)) n))
    (fun v st hv hs => by
      obtain ⟨t, i⟩ := st
      obtain ⟨rfl, q0, q1, q2⟩ := hs
      dsimp only at q1 q2
      left
      have ag1 : ag t (nI v) = nI (cnt (fun k => decide (kn k + 1 = v)) n) := by rw [ag_nI (by omega), q2 v (by omega) hv]
      have sb : nI v - 1 = nI (v - 1) := pk_sub (b := 1) q0
      have ag2 : ag t (nI (v - 1)) = nI (cnt (fun k => decide (kn k < v - 1)) n) := by rw [ag_nI (by omega), q1 (v - 1) (by omega) (by omega)]
      have au1 : ∀ x, au t (nI v) x = upd t v x := fun x => au_nI (by omega)
      have sum : cnt (fun k => decide (kn k < v)) n = cnt (fun k => decide (kn k + 1 = v)) n + cnt (fun k => decide (kn k < v - 1)) n := cnt_add (fun i _ => by simp only [decide_eq_true_eq]; omega)
      refine ⟨(upd t v (nI (cnt (fun k => decide (kn k < v)) n)), nI (v + 1)), ?_, rfl, by omega, fun c hc hc2 => ?_, fun c hc hc2 => ?_⟩
      · show X6_sortBy_L53 t (nI v) = _
        unfold X6_sortBy_L53
        simp only [if_neg (nI_ge hv (show 2486 < 2 ^ 31 by decide)), ck_t (ix_nI hv (show 2486 < 2 ^ 31 by decide)), sb, ck_t (ix_nI (show v - 1 < 2486 by omega) (show 2486 < 2 ^ 31 by decide)), ag1, ag2, nI_add, ← sum, au1, bnd_some, bnd_none, rmap_some, nm_eq, Sum.elim_inl, Sum.elim_inr, un2_mk, un3_mk, un4_mk, un5_mk, un6_mk, un7_mk, un8_mk, un9_mk, un10_mk, un11_mk, un12_mk, nI_1]
      · show upd t v _ c = _
        rw [upd_at]
        by_cases e : c = v
        · rw [if_pos e, e]
        · rw [if_neg e]; exact q1 c (by omega) hc2
      · show upd t v _ c = _
        rw [upd_at, if_neg (by omega)]; exact q2 c (by omega) hc2)
    (fun st hs => by
      obtain ⟨t, i⟩ := st
      obtain ⟨rfl, q0, q1, q2⟩ := hs
      refine ⟨t, ?_, fun c hc => q1 c hc hc⟩
      show X6_sortBy_L53 t (nI 2486) = _
      unfold X6_sortBy_L53
      rw [if_pos (nI_le (Nat.le_refl 2486) (by decide))]) 1 (t1, nI 1) (by omega) ⟨rfl, by omega, fun c hc hc2 => by
        have e : c = 0 := by omega
        subst e
        show t1 0 = _
        rw [h1 0 hc2]
        exact congrArg nI (cnt_congr (fun s _ => decide_eq_decide.mpr (by omega))), fun c _ hc => h1 c hc⟩
  exact ⟨r, g1, g2⟩
theorem tally3 {keys fr : Ar} {n : Nat} {F kn : Nat → Nat} (hn : n ≤ 1200) (hF : ∀ k, k < n → fr k = nI (F k) ∧ F k < 1200 ∧ keys (F k) + 1242 = nI (kn k) ∧ kn k ≤ 2484) (to t2 : Ar) (h2 : ∀ c, c < 2486 → t2 c = nI (cnt (fun k => decide (kn k < c)) n)) :
    ∃ to' t3, whileV (fun st => X6_sortBy_L91 keys fr (nI n) st.1 st.2.1 st.2.2) (to, t2, 0) = some (to', t3) ∧ ∀ k, k < n → to' (posK kn n k) = nI (F k) := by
  obtain ⟨⟨r1, r2⟩, g1, g2⟩ := whileV_up (body := fun st => X6_sortBy_L91 keys fr (nI n) st.1 st.2.1 st.2.2) n
    (fun k st => st.2.2 = nI k ∧ (∀ c, c < 2486 → st.2.1 c = nI (cnt (fun j => decide (kn j < c)) n + cnt (fun j => decide (kn j = c)) k)) ∧ ∀ j, j < k → st.1 (posK kn n j) = nI (F j))
    (fun r => ∀ k, k < n → r.1 (posK kn n k) = nI (F k))
    (fun k st hk hs => by
      obtain ⟨to, t, i⟩ := st
      obtain ⟨rfl, q1, q2⟩ := hs
      dsimp only at q1 q2
      left
      obtain ⟨f1, f2, f3, f4⟩ := hF k hk
      have pn := posK_n (kn := kn) hk
      have ag1 : ag fr (nI k) = nI (F k) := by rw [ag_nI (by omega), f1]
      have ag2 : ag keys (nI (F k)) + 1242 = nI (kn k) := by rw [ag_nI (by omega), f3]
      have ag3 : ag t (nI (kn k)) = nI (posK kn n k) := by rw [ag_nI (by omega), q1 _ (by omega)]; rfl
      have au1 : ∀ x, au t (nI (kn k)) x = upd t (kn k) x := fun x => au_nI (by omega)
      have au2 : ∀ x, au to (nI (posK kn n k)) x = upd to (posK kn n k) x := fun x => au_nI (by omega)
      refine ⟨(upd to (posK kn n k) (nI (F k)), upd t (kn k) (nI (posK kn n k + 1)), nI (k + 1)), ?_, rfl, fun c hc => ?_, fun j hj => ?_⟩
      · show X6_sortBy_L91 keys fr (nI n) to t (nI k) = _
        unfold X6_sortBy_L91
        simp only [if_neg (nI_ge hk (show n < 2 ^ 31 by omega)), ck_t (ix_nI (show k < 1200 by omega) (show 1200 < 2 ^ 31 by decide)), ag1, ck_t (ix_nI f2 (show 1200 < 2 ^ 31 by decide)), ag2, ck_t (ix_nI (show kn k < 2486 by omega) (show 2486 < 2 ^ 31 by decide)), ag3, ck_t (ix_nI (show posK kn n k < 1200 by omega) (show 1200 < 2 ^ 31 by decide)), au1, au2, bnd_some, bnd_none, rmap_some, nm_eq, Sum.elim_inl, Sum.elim_inr, un2_mk, un3_mk, un4_mk, un5_mk, un6_mk, un7_mk, un8_mk, un9_mk, un10_mk, un11_mk, un12_mk, nI_1]
      · show upd t (kn k) _ c = _
        rw [upd_at]
        show _ = nI (cnt (fun j => decide (kn j < c)) n + (cnt (fun j => decide (kn j = c)) k + if decide (kn k = c) = true then 1 else 0))
        by_cases e : c = kn k
        · rw [if_pos e, e, if_pos (decide_eq_true rfl)]; rfl
        · rw [if_neg e, if_neg (by rw [decide_eq_true_eq]; exact Ne.symm e)]
          exact q1 c hc
      · show upd to (posK kn n k) _ (posK kn n j) = _
        rw [upd_at]
        by_cases e : j = k
        · rw [if_pos (by rw [e]), e]
        · rw [if_neg, q2 j (by omega)]
          intro q
          have hj' : j < k := by omega
          rcases Nat.lt_trichotomy (kn j) (kn k) with z | z | z
          · have := posK_mono (kn := kn) (show j < n by omega) hk (Or.inl z); omega
          · have := posK_mono (kn := kn) (show j < n by omega) hk (Or.inr ⟨z, hj'⟩); omega
          · have := posK_mono (kn := kn) hk (show j < n by omega) (Or.inl z); omega)
    (fun st hs => by
      obtain ⟨to, t, i⟩ := st
      obtain ⟨rfl, q1, q2⟩ := hs
      refine ⟨(to, t), ?_, q2⟩
      show X6_sortBy_L91 keys fr (nI n) to t (nI n) = _
      unfold X6_sortBy_L91
      rw [if_pos (nI_le (Nat.le_refl n) (by omega))]) 0 (to, t2, 0) (by omega) ⟨rfl, fun c hc => by rw [show cnt (fun j => decide (kn j = c)) 0 = 0 from rfl]; exact h2 c hc, fun j hj => by omega⟩
  exact ⟨r1, r2, g1, g2⟩
/-- a listing, in order, of what P holds of -/
def Lst (n : Nat) (F : Nat → Nat) (lt : Nat → Nat → Prop) (P : Nat → Prop) : Prop := (∀ k, k < n → P (F k)) ∧ (∀ i j, i < j → j < n → lt (F i) (F j)) ∧ ∀ s, P s → ∃ k, k < n ∧ F k = s
def lex (key : Nat → Nat) (lt : Nat → Nat → Prop) (s t : Nat) : Prop := key s < key t ∨ (key s = key t ∧ lt s t)
theorem sort_ok {keys fr : Ar} {n : Nat} {F key : Nat → Nat} {lt : Nat → Nat → Prop} {P : Nat → Prop} (hn : n ≤ 1200) (hp : ∀ s, P s → s < 1200 ∧ keys s + 1242 = nI (key s) ∧ key s ≤ 2484) (hF : ∀ k, k < n → fr k = nI (F k)) (hl : Lst n F lt P) (to tl : Ar) :
    ∃ to' tl' G, X6_sortBy keys fr to (nI n) tl = some (to', tl') ∧ (∀ k, k < n → to' k = nI (G k)) ∧ Lst n G (lex key lt) P := by
  obtain ⟨l1, l2, l3⟩ := hl
  have hF' : ∀ k, k < n → fr k = nI (F k) ∧ F k < 1200 ∧ keys (F k) + 1242 = nI ((fun k => key (F k)) k) ∧ (fun k => key (F k)) k ≤ 2484 := fun k hk => by
    have := hp _ (l1 k hk)
    exact ⟨hF k hk, this.1, this.2.1, this.2.2⟩
  obtain ⟨t0, a1, a2⟩ := fill_ok 2486 (by decide) tl 0
  obtain ⟨t1, b1, b2⟩ := tally1 hn hF' t0 (fun c hc => by rw [a2 c, if_pos hc])
  obtain ⟨t2, c1, c2⟩ := tally2 hn t1 b2
  obtain ⟨to', t3, d1, d2⟩ := tally3 hn hF' to t2 c2
  have inj : ∀ i j, i < j → j < n → posK (fun k => key (F k)) n i ≠ posK (fun k => key (F k)) n j := by
    intro i j hi hj q
    rcases Nat.lt_trichotomy (key (F i)) (key (F j)) with z | z | z
    · have := posK_mono (kn := fun k => key (F k)) (show i < n by omega) hj (Or.inl z); omega
    · have := posK_mono (kn := fun k => key (F k)) (show i < n by omega) hj (Or.inr ⟨z, hi⟩); omega
    · have := posK_mono (kn := fun k => key (F k)) hj (show i < n by omega) (Or.inl z); omega
  have onto : ∀ y, y < n → ∃ k, k < n ∧ posK (fun k => key (F k)) n k = y := fun y hy => inj_onto (fun i hi => posK_n hi) inj hy
  have G : ∀ k, k < n → (to' (posK (fun k => key (F k)) n k)).toNatClampNeg = F k := fun k hk => by
    rw [d2 k hk, nI_clamp (by have := (hF' k hk).2.1; omega)]
  refine ⟨to', t3, fun y => (to' y).toNatClampNeg, ?_, fun y hy => ?_, fun y hy => ?_, fun i j hi hj => ?_, fun s hs => ?_⟩
  · have c1' : whileV (fun st => X6_sortBy_L53 st.1 st.2) (t1, 1) = some t2 := c1
    unfold X6_sortBy
    simp only [a1, bnd_some, bnd_none, rmap_some, nm_eq, Sum.elim_inl, Sum.elim_inr, un2_mk, un3_mk, un4_mk, un5_mk, un6_mk, un7_mk, un8_mk, un9_mk, un10_mk, un11_mk, un12_mk, b1, c1', d1]
  · obtain ⟨k, k1, rfl⟩ := onto y hy
    dsimp only
    rw [G k k1]; exact d2 k k1
  · obtain ⟨k, k1, rfl⟩ := onto y hy
    dsimp only
    rw [G k k1]; exact l1 k k1
  · obtain ⟨k, k1, rfl⟩ := onto i (by omega)
    obtain ⟨k', k1', rfl⟩ := onto j hj
    dsimp only
    rw [G k k1, G k' k1']
    unfold lex
    rcases Nat.lt_trichotomy (key (F k)) (key (F k')) with z | z | z
    · exact Or.inl z
    · refine Or.inr ⟨z, l2 k k' ?_ k1'⟩
      rcases Nat.lt_trichotomy k k' with y | y | y
      · exact y
      · rw [y] at hi; omega
      · have := posK_mono (kn := fun k => key (F k)) k1' k1 (Or.inr ⟨z.symm, y⟩); omega
    · have := posK_mono (kn := fun k => key (F k)) k1' k1 (Or.inl z); omega
  · obtain ⟨k, k1, rfl⟩ := l3 s hs
    exact ⟨_, posK_n k1, G k k1⟩
