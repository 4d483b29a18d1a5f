/-! the waiting row finds the least lengths too -/
def sumN (g : Nat → Nat) : Nat → Nat
  | 0 => 0
  | n + 1 => sumN g n + g n
theorem sumN_congr {g h : Nat → Nat} {n : Nat} (e : ∀ i, i < n → g i = h i) : sumN g n = sumN h n := by
  induction n with
  | zero => rfl
  | succ n ih => unfold sumN; rw [ih (fun i hi => e i (by omega)), e n (by omega)]
theorem sumN_u {g : Nat → Nat} {n t v : Nat} (h : t < n) : sumN (uN g t v) n + g t = sumN g n + v := by
  induction n with
  | zero => omega
  | succ n ih =>
    unfold sumN
    by_cases e : t = n
    · subst e
      rw [uN_s, sumN_congr (h := g) (fun i hi => uN_n (by omega))]
      omega
    · rw [uN_n (show n ≠ t by omega)]
      have := ih (by omega)
      omega
def RI (kd : Ar) (f : Nat) (P : Nat → Prop) (L : Nat → Nat) (iw wt : Ar) (q : Nat → Nat) (fst many : Nat) : Prop :=
  L f = 0 ∧ (∀ t, L t ≤ 100000000) ∧
  (∀ t, t < 1200 → t ≠ f → L t < 100000000 → kd t = 1 ∧ ∃ o w, (o = f ∨ kd o = 1) ∧ adj o t w ∧ L o + w ≤ L t) ∧
  (∀ s, s < 1200 → s ≠ f → (iw s = 0 ∧ ∀ j, j < many → q j ≠ s) ∨ (iw s = 1 ∧ ∃ j, j < many ∧ q j = s)) ∧
  (∀ j, j < many → q j < 1200 ∧ (q j = f ∨ kd (q j) = 1) ∧ L (q j) < 100000000 ∧ wt ((fst + j) % 1200) = nI (q j)) ∧
  (∀ i j, i < j → j < many → q i ≠ q j) ∧
  (∀ o, o < 1200 → (o = f ∨ kd o = 1) → L o < 100000000 → P o ∨ (∃ j, j < many ∧ q j = o) ∨ ∀ t w, adj o t w → kd t = 1 → t ≠ f → L t ≤ L o + w) ∧ fst < 1200
theorem RI_set {kd : Ar} {f : Nat} {P : Nat → Prop} {L : Nat → Nat} {iw wt : Ar} {q : Nat → Nat} {fst many s o w : Nat} (h : RI kd f P L iw wt q fst many) (hp : ∀ x, P x ↔ x = s) (hs : s = f ∨ kd s = 1) (ha : adj s o w) (hk : kd o = 1) (hof : o ≠ f) (hl : L s + w < L o) :
    (iw o = 1 → RI kd f P (uN L o (L s + w)) iw wt q fst many) ∧ (iw o = 0 → many < 1200 ∧ RI kd f P (uN L o (L s + w)) (upd iw o 1) (upd wt ((fst + many) % 1200) (nI o)) (uN q many o) fst (many + 1)) := by
  obtain ⟨i1, i2, i3, i4, i5, i6, i7, i8⟩ := h
  have so : s ≠ o := ha.2.2.1
  have le : ∀ x, uN L o (L s + w) x ≤ L x := by
    intro x
    by_cases e : x = o
    · rw [e, uN_s]; omega
    · rw [uN_n e]; exact Nat.le_refl _
  have b1 : uN L o (L s + w) f = 0 := by rw [uN_n (Ne.symm hof)]; exact i1
  have b2 : ∀ t, uN L o (L s + w) t ≤ 100000000 := fun t => Nat.le_trans (le t) (i2 t)
  have lo := i2 o
  have b3 : ∀ t, t < 1200 → t ≠ f → uN L o (L s + w) t < 100000000 → kd t = 1 ∧ ∃ o' w', (o' = f ∨ kd o' = 1) ∧ adj o' t w' ∧ uN L o (L s + w) o' + w' ≤ uN L o (L s + w) t := by
    intro t h1 h2 h3
    by_cases e : t = o
    · refine ⟨e ▸ hk, s, w, hs, e ▸ ha, ?_⟩
      rw [e, uN_s, uN_n so]
      exact Nat.le_refl _
    · rw [uN_n e] at h3 ⊢
      obtain ⟨k1, o', w', p1, p2, p3⟩ := i3 t h1 h2 h3
      exact ⟨k1, o', w', p1, p2, by have := le o'; omega⟩
  refine ⟨fun hw => ?_, fun hw => ?_⟩
  · have inq : ∃ j, j < many ∧ q j = o := by
      rcases i4 o ha.2.1 hof with ⟨a, _⟩ | ⟨_, b⟩
      · rw [a] at hw; exact absurd hw (by decide)
      · exact b
    refine ⟨b1, b2, b3, i4, fun j hj => ?_, i6, fun x h1 h2 h3 => ?_, i8⟩
    · obtain ⟨a, b, c, d⟩ := i5 j hj
      exact ⟨a, b, by have := le (q j); omega, d⟩
    · by_cases e : x = o
      · exact Or.inr (Or.inl (e ▸ inq))
      · rw [uN_n e] at h3
        rcases i7 x h1 h2 h3 with r | r | r
        · exact Or.inl r
        · exact Or.inr (Or.inl r)
        · exact Or.inr (Or.inr (fun t w' u1 u2 u3 => by rw [uN_n e]; have := r t w' u1 u2 u3; have := le t; omega))
  · have notq : ∀ j, j < many → q j ≠ o := by
      rcases i4 o ha.2.1 hof with ⟨_, a⟩ | ⟨a, _⟩
      · exact a
      · rw [a] at hw; exact absurd hw (by decide)
    have cap : many + 1 ≤ 1200 := inj_le 1200 (many + 1) (uN q many o) (fun i hi => by
      by_cases e : i = many
      · rw [e, uN_s]; exact ha.2.1
      · rw [uN_n e]; exact (i5 i (by omega)).1) (fun i j hi hj => by
      rw [uN_n (show i ≠ many by omega)]
      by_cases e : j = many
      · rw [e, uN_s]; exact notq i (by omega)
      · rw [uN_n e]; exact i6 i j hi (by omega))
    refine ⟨by omega, b1, b2, b3, fun x h1 h2 => ?_, fun j hj => ?_, fun i j hi hj => ?_, fun x h1 h2 h3 => ?_, i8⟩
    · rw [upd_at]
      by_cases e : x = o
      · rw [if_pos e]
        exact Or.inr ⟨rfl, many, by omega, by rw [uN_s, e]⟩
      · rw [if_neg e]
        rcases i4 x h1 h2 with ⟨a, b⟩ | ⟨a, j, c, d⟩
        · refine Or.inl ⟨a, fun j hj => ?_⟩
          by_cases e2 : j = many
          · rw [e2, uN_s]; exact Ne.symm e
          · rw [uN_n e2]; exact b j (by omega)
        · exact Or.inr ⟨a, j, by omega, by rw [uN_n (by omega)]; exact d⟩
    · by_cases e : j = many
      · rw [e, uN_s, upd_at, if_pos rfl]
        exact ⟨ha.2.1, Or.inr hk, by rw [uN_s]; omega, rfl⟩
      · obtain ⟨a, b, c, d⟩ := i5 j (by omega)
        rw [uN_n e, upd_at, if_neg (by omega)]
        exact ⟨a, b, by have := le (q j); omega, d⟩
    · rw [uN_n (show i ≠ many by omega)]
      by_cases e : j = many
      · rw [e, uN_s]; exact notq i (by omega)
      · rw [uN_n e]; exact i6 i j hi (by omega)
    · by_cases e : x = o
      · exact Or.inr (Or.inl ⟨many, by omega, by rw [uN_s, e]⟩)
      · rw [uN_n e] at h3
        rcases i7 x h1 h2 h3 with r | ⟨j, r1, r2⟩ | r
        · exact Or.inl r
        · exact Or.inr (Or.inl ⟨j, by omega, by rw [uN_n (by omega)]; exact r2⟩)
        · exact Or.inr (Or.inr (fun t w' u1 u2 u3 => by rw [uN_n e]; have := r t w' u1 u2 u3; have := le t; omega))
/-- the neighbour in direction d of nine -/
theorem nb_adj {s d : Nat} (hs : s < 1200) (hd : d < 9) (h4 : d ≠ 4) (h : inL (cX s + ((d % 3 : Nat) : Int) - 1) (cY s + ((d / 3 : Nat) : Int) - 1)) :
    adj s (40 * (cY s + ((d / 3 : Nat) : Int) - 1) + (cX s + ((d % 3 : Nat) : Int) - 1)).toNat (if d % 2 = 1 then 5 else 7) := by
  have c := cX_of h
  have fs := cXf s
  refine ⟨hs, c.2.2, ?_, by omega, by omega, by omega, by omega, ?_⟩
  · intro q
    have e1 : cX s = cX s + ((d % 3 : Nat) : Int) - 1 := by rw [← q] at c; exact c.1
    have e2 : cY s = cY s + ((d / 3 : Nat) : Int) - 1 := by rw [← q] at c; exact c.2.1
    omega
  · rw [c.1, c.2.1]
    by_cases e : d % 2 = 1
    · rw [if_pos e, if_pos (by omega)]
    · rw [if_neg e, if_neg (by omega)]
theorem adj_nb {s t w : Nat} (h : adj s t w) : ∃ d, d < 9 ∧ d ≠ 4 ∧ inL (cX s + ((d % 3 : Nat) : Int) - 1) (cY s + ((d / 3 : Nat) : Int) - 1) ∧ t = (40 * (cY s + ((d / 3 : Nat) : Int) - 1) + (cX s + ((d % 3 : Nat) : Int) - 1)).toNat ∧ w = if d % 2 = 1 then 5 else 7 := by
  obtain ⟨a, b, c, d, e, f, g, i⟩ := h
  have fs := cXf s
  have ft := cXf t
  obtain ⟨u, hu⟩ : ∃ u : Nat, (u : Int) = cX t - cX s + 1 := ⟨(cX t - cX s + 1).toNat, by omega⟩
  obtain ⟨v, hv⟩ : ∃ v : Nat, (v : Int) = cY t - cY s + 1 := ⟨(cY t - cY s + 1).toNat, by omega⟩
  refine ⟨3 * v + u, by omega, ?_, ?_, ?_, ?_⟩
  · intro q
    have : u = 1 := by omega
    have : v = 1 := by omega
    exact c (by omega)
  · rw [show (3 * v + u) % 3 = u by omega, show (3 * v + u) / 3 = v by omega]
    omega
  · rw [show (3 * v + u) % 3 = u by omega, show (3 * v + u) / 3 = v by omega]
    omega
  · rw [i]
    have u3 : u ≤ 2 := by omega
    have v3 : v ≤ 2 := by omega
    have nn : ¬ (u = 1 ∧ v = 1) := fun q => c (by omega)
    by_cases e : cX t = cX s ∨ cY t = cY s
    · rw [if_pos e, if_pos (by omega)]
    · rw [if_neg e, if_neg (by omega)]
