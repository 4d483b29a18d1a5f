/-! two queues find the least lengths -/
def uN (g : Nat → Nat) (k v : Nat) : Nat → Nat := fun j => if j = k then v else g j
theorem uN_s (g : Nat → Nat) (k v : Nat) : uN g k v k = v := if_pos rfl
theorem uN_n {g : Nat → Nat} {k v j : Nat} (h : j ≠ k) : uN g k v j = g j := if_neg h
def WI (kd : Ar) (f : Nat) (L SQ TQ K : Nat → Nat) (D : Nat → Prop) (n1 n2 a1 a2 c : Nat) : Prop :=
  L f = 0 ∧ (∀ t, L t ≤ 1000000) ∧
  (∀ t, t < 1200 → t ≠ f → L t < 1000000 → ∃ o w, (o = f ∨ kd o = 1) ∧ adj o t w ∧ L o + w ≤ L t) ∧
  (∀ i, i < n1 → SQ i < 1200 ∧ kd (SQ i) = 1 ∧ L (SQ i) ≤ c + 5) ∧
  (∀ i j, i < j → j < n1 → SQ i ≠ SQ j ∧ L (SQ i) ≤ L (SQ j)) ∧
  (∀ i, i < n2 → TQ i < 1200 ∧ kd (TQ i) = 1 ∧ L (TQ i) ≤ K i ∧ K i ≤ c + 7) ∧
  (∀ i j, i < j → j < n2 → TQ i ≠ TQ j ∧ K i ≤ K j) ∧
  (∀ i, a2 ≤ i → i < n2 → L (TQ i) = K i ∨ ∃ j, j < n1 ∧ SQ j = TQ i) ∧
  (∀ e, D e → L e ≤ c ∧ ∀ t w, adj e t w → ¬ kd t = 0 → L t ≤ L e + w) ∧
  (∀ i, i < a1 → D (SQ i)) ∧ (∀ i, i < a2 → D (TQ i)) ∧
  (∀ e, e < 1200 → kd e = 1 → e ≠ f → L e < 1000000 → (∃ i, i < n1 ∧ SQ i = e) ∨ ∃ i, i < n2 ∧ TQ i = e) ∧
  (∀ i, a1 ≤ i → i < n1 → c ≤ L (SQ i) ∨ D (SQ i)) ∧ (∀ i, a2 ≤ i → i < n2 → c ≤ L (TQ i) ∨ D (TQ i))
theorem WI_set {kd : Ar} {f : Nat} {L SQ TQ K : Nat → Nat} {D : Nat → Prop} {n1 n2 a1 a2 c o t w : Nat} (h : WI kd f L SQ TQ K D n1 n2 a1 a2 c) (ho : o = f ∨ kd o = 1) (hc : L o = c) (ha : adj o t w) (hl : c + w < L t) (hb : c + w < 1000000) :
    (∀ s, uN L t (c + w) s ≤ L s) ∧ t ≠ f ∧ t ≠ o ∧ ¬ D t ∧ uN L t (c + w) f = 0 ∧ (∀ t', uN L t (c + w) t' ≤ 1000000) ∧
    (∀ t', t' < 1200 → t' ≠ f → uN L t (c + w) t' < 1000000 → ∃ o w', (o = f ∨ kd o = 1) ∧ adj o t' w' ∧ uN L t (c + w) o + w' ≤ uN L t (c + w) t') ∧
    (∀ e, D e → uN L t (c + w) e ≤ c ∧ ∀ t' w', adj e t' w' → ¬ kd t' = 0 → uN L t (c + w) t' ≤ uN L t (c + w) e + w') ∧ (∀ i, i < n1 → SQ i ≠ t) := by
  obtain ⟨i1, i2, i3, q1, q1s, q2, q2s, q3, d, d2, d2', d3, q4, q4'⟩ := h
  have le : ∀ s, uN L t (c + w) s ≤ L s := by
    intro s
    by_cases e : s = t
    · rw [e, uN_s]; omega
    · rw [uN_n e]; exact Nat.le_refl _
  have w5 := adj_w ha
  have tf : t ≠ f := fun q => by rw [q, i1] at hl; omega
  have to : t ≠ o := fun q => by rw [q, hc] at hl; omega
  have td : ¬ D t := fun q => by have := (d t q).1; omega
  refine ⟨le, tf, to, td, by rw [uN_n (Ne.symm tf)]; exact i1, fun t' => Nat.le_trans (le t') (i2 t'), fun t' h1 h2 h3 => ?_, fun e he => ?_, fun i hi q => ?_⟩
  · by_cases e : t' = t
    · refine ⟨o, w, ho, e ▸ ha, ?_⟩
      rw [e, uN_s, uN_n (Ne.symm to), hc]
      exact Nat.le_refl _
    · rw [uN_n e] at h3 ⊢
      obtain ⟨o', w', p1, p2, p3⟩ := i3 t' h1 h2 h3
      exact ⟨o', w', p1, p2, by have := le o'; omega⟩
  · have de := d e he
    have et : e ≠ t := fun q => td (q ▸ he)
    rw [uN_n et]
    exact ⟨de.1, fun t' w' p1 p2 => by have := de.2 t' w' p1 p2; have := le t'; omega⟩
  · have := (q1 i hi).2.2
    rw [q] at this
    omega
theorem WI_5 {kd : Ar} {f : Nat} {L SQ TQ K : Nat → Nat} {D : Nat → Prop} {n1 n2 a1 a2 c o t : Nat} (h : WI kd f L SQ TQ K D n1 n2 a1 a2 c) (ho : o = f ∨ kd o = 1) (hc : L o = c) (ha : adj o t 5) (hl : c + 5 < L t) (hb : c + 5 < 1000000) (a1n : a1 ≤ n1) (hk : kd t = 1) :
    n1 < 1200 ∧ WI kd f (uN L t (c + 5)) (uN SQ n1 t) TQ K D (n1 + 1) n2 a1 a2 c := by
  obtain ⟨le, tf, to, td, w1, w2, w3, w4, w5⟩ := WI_set h ho hc ha hl hb
  obtain ⟨i1, i2, i3, q1, q1s, q2, q2s, q3, d, d2, d2', d3, q4, q4'⟩ := h
  have cap : n1 + 1 ≤ 1200 := inj_le 1200 (n1 + 1) (uN SQ n1 t) (fun i hi => by
    by_cases e : i = n1
    · rw [e, uN_s]; exact ha.2.1
    · rw [uN_n e]; exact (q1 i (by omega)).1) (fun i j hi hj => by
    rw [uN_n (show i ≠ n1 by omega)]
    by_cases e : j = n1
    · rw [e, uN_s]; exact w5 i (by omega)
    · rw [uN_n e]; exact (q1s i j hi (by omega)).1)
  refine ⟨by omega, w1, w2, w3, fun i hi => ?_, fun i j hi hj => ?_, fun i hi => ?_, q2s, fun i hi hi2 => ?_, w4, fun i hi => ?_, d2', fun e e1 e2 e3 e4 => ?_, fun i hi hi2 => ?_, fun i hi hi2 => ?_⟩
  · by_cases e : i = n1
    · rw [e, uN_s, uN_s]; exact ⟨ha.2.1, hk, Nat.le_refl _⟩
    · rw [uN_n e, uN_n (w5 i (by omega))]; exact q1 i (by omega)
  · rw [uN_n (show i ≠ n1 by omega), uN_n (w5 i (by omega))]
    by_cases e : j = n1
    · rw [e, uN_s, uN_s]; exact ⟨w5 i (by omega), (q1 i (by omega)).2.2⟩
    · rw [uN_n e, uN_n (w5 j (by omega))]; exact q1s i j hi (by omega)
  · have := q2 i hi
    exact ⟨this.1, this.2.1, Nat.le_trans (le _) this.2.2.1, this.2.2.2⟩
  · by_cases e : TQ i = t
    · exact Or.inr ⟨n1, by omega, by rw [uN_s, e]⟩
    · rw [uN_n e]
      rcases q3 i hi hi2 with q | ⟨j, j1, j2⟩
      · exact Or.inl q
      · exact Or.inr ⟨j, by omega, by rw [uN_n (by omega)]; exact j2⟩
  · rw [uN_n (show i ≠ n1 by omega)]; exact d2 i hi
  · by_cases q : e = t
    · exact Or.inl ⟨n1, by omega, by rw [uN_s, q]⟩
    · rw [uN_n q] at e4
      rcases d3 e e1 e2 e3 e4 with ⟨i, j1, j2⟩ | ⟨i, j1, j2⟩
      · exact Or.inl ⟨i, by omega, by rw [uN_n (by omega)]; exact j2⟩
      · exact Or.inr ⟨i, j1, j2⟩
  · by_cases e : i = n1
    · rw [e, uN_s, uN_s]; exact Or.inl (by omega)
    · rw [uN_n e, uN_n (w5 i (by omega))]; exact q4 i hi (by omega)
  · by_cases e : TQ i = t
    · rw [e, uN_s]; exact Or.inl (by omega)
    · rw [uN_n e]; exact q4' i hi hi2
theorem WI_7 {kd : Ar} {f : Nat} {L SQ TQ K : Nat → Nat} {D : Nat → Prop} {n1 n2 a1 a2 c o t : Nat} (h : WI kd f L SQ TQ K D n1 n2 a1 a2 c) (ho : o = f ∨ kd o = 1) (hc : L o = c) (ha : adj o t 7) (hl : c + 7 < L t) (hb : c + 7 < 1000000) (a2n : a2 ≤ n2) (hk : kd t = 1) :
    n2 < 1200 ∧ WI kd f (uN L t (c + 7)) SQ (uN TQ n2 t) (uN K n2 (c + 7)) D n1 (n2 + 1) a1 a2 c := by
  obtain ⟨le, tf, to, td, w1, w2, w3, w4, w5⟩ := WI_set h ho hc ha hl hb
  obtain ⟨i1, i2, i3, q1, q1s, q2, q2s, q3, d, d2, d2', d3, q4, q4'⟩ := h
  have w6 : ∀ i, i < n2 → TQ i ≠ t := by
    intro i hi q
    have := q2 i hi
    rw [q] at this
    omega
  have cap : n2 + 1 ≤ 1200 := inj_le 1200 (n2 + 1) (uN TQ n2 t) (fun i hi => by
    by_cases e : i = n2
    · rw [e, uN_s]; exact ha.2.1
    · rw [uN_n e]; exact (q2 i (by omega)).1) (fun i j hi hj => by
    rw [uN_n (show i ≠ n2 by omega)]
    by_cases e : j = n2
    · rw [e, uN_s]; exact w6 i (by omega)
    · rw [uN_n e]; exact (q2s i j hi (by omega)).1)
  refine ⟨by omega, w1, w2, w3, fun i hi => ?_, fun i j hi hj => ?_, fun i hi => ?_, fun i j hi hj => ?_, fun i hi hi2 => ?_, w4, d2, fun i hi => ?_, fun e e1 e2 e3 e4 => ?_, fun i hi hi2 => ?_, fun i hi hi2 => ?_⟩
  · rw [uN_n (w5 i hi)]; exact q1 i hi
  · rw [uN_n (w5 i (by omega)), uN_n (w5 j hj)]; exact q1s i j hi hj
  · by_cases e : i = n2
    · rw [e, uN_s, uN_s, uN_s]; exact ⟨ha.2.1, hk, Nat.le_refl _, Nat.le_refl _⟩
    · rw [uN_n e, uN_n (w6 i (by omega)), uN_n e]; exact q2 i (by omega)
  · rw [uN_n (show i ≠ n2 by omega), uN_n (show i ≠ n2 by omega)]
    by_cases e : j = n2
    · rw [e, uN_s, uN_s]; exact ⟨w6 i (by omega), (q2 i (by omega)).2.2.2⟩
    · rw [uN_n e, uN_n e]; exact q2s i j hi (by omega)
  · by_cases e : i = n2
    · rw [e, uN_s, uN_s, uN_s]; exact Or.inl rfl
    · rw [uN_n e, uN_n (w6 i (by omega)), uN_n e]; exact q3 i hi (by omega)
  · rw [uN_n (show i ≠ n2 by omega)]; exact d2' i hi
  · by_cases q : e = t
    · exact Or.inr ⟨n2, by omega, by rw [uN_s, q]⟩
    · rw [uN_n q] at e4
      rcases d3 e e1 e2 e3 e4 with ⟨i, j1, j2⟩ | ⟨i, j1, j2⟩
      · exact Or.inl ⟨i, j1, j2⟩
      · exact Or.inr ⟨i, by omega, by rw [uN_n (by omega)]; exact j2⟩
  · rw [uN_n (w5 i hi2)]; exact q4 i hi hi2
  · by_cases e : i = n2
    · rw [e, uN_s, uN_s]; exact Or.inl (by omega)
    · rw [uN_n e, uN_n (w6 i (by omega))]; exact q4' i hi (by omega)
theorem WI_0 {kd : Ar} {f : Nat} {L SQ TQ K : Nat → Nat} {D : Nat → Prop} {n1 n2 a1 a2 c o t w : Nat} (h : WI kd f L SQ TQ K D n1 n2 a1 a2 c) (ho : o = f ∨ kd o = 1) (hc : L o = c) (ha : adj o t w) (hl : c + w < L t) (hb : c + w < 1000000) (hk : ¬ kd t = 1) :
    WI kd f (uN L t (c + w)) SQ TQ K D n1 n2 a1 a2 c := by
  obtain ⟨le, tf, to, td, w1, w2, w3, w4, w5⟩ := WI_set h ho hc ha hl hb
  obtain ⟨i1, i2, i3, q1, q1s, q2, q2s, q3, d, d2, d2', d3, q4, q4'⟩ := h
  have w6 : ∀ i, i < n2 → TQ i ≠ t := by
    intro i hi q
    have := q2 i hi
    rw [q] at this
    exact hk this.2.1
  refine ⟨w1, w2, w3, fun i hi => ?_, fun i j hi hj => ?_, fun i hi => ?_, q2s, fun i hi hi2 => ?_, w4, d2, d2', fun e e1 e2 e3 e4 => ?_, fun i hi hi2 => ?_, fun i hi hi2 => ?_⟩
  · rw [uN_n (w5 i hi)]; exact q1 i hi
  · rw [uN_n (w5 i (by omega)), uN_n (w5 j hj)]; exact q1s i j hi hj
  · rw [uN_n (w6 i hi)]; exact q2 i hi
  · rw [uN_n (w6 i hi2)]; exact q3 i hi hi2
  · have q : e ≠ t := fun q => hk (q ▸ e2)
    rw [uN_n q] at e4
    exact d3 e e1 e2 e3 e4
  · rw [uN_n (w5 i hi2)]; exact q4 i hi hi2
  · rw [uN_n (w6 i hi2)]; exact q4' i hi hi2
/-- the next square to leave is the nearest -/
theorem WI_pop1 {kd : Ar} {f : Nat} {L SQ TQ K : Nat → Nat} {D : Nat → Prop} {n1 n2 a1 a2 c : Nat} (h : WI kd f L SQ TQ K D n1 n2 a1 a2 c) (hn : a1 < n1) (hx : a2 < n2 → L (SQ a1) ≤ L (TQ a2)) (hd : ¬ D (SQ a1)) :
    c ≤ L (SQ a1) ∧ L (SQ a1) ≤ c + 5 ∧ WI kd f L SQ TQ K D n1 n2 a1 a2 (L (SQ a1)) := by
  obtain ⟨i1, i2, i3, q1, q1s, q2, q2s, q3, d, d2, d2', d3, q4, q4'⟩ := h
  have lo : c ≤ L (SQ a1) := by rcases q4 a1 (Nat.le_refl _) hn with q | q; exact q; exact absurd q hd
  have s1 : ∀ i, a1 ≤ i → i < n1 → L (SQ a1) ≤ L (SQ i) := by
    intro i h1 h2
    by_cases e : i = a1
    · rw [e]; exact Nat.le_refl _
    · exact (q1s a1 i (by omega) h2).2
  refine ⟨lo, (q1 a1 hn).2.2, i1, i2, i3, fun i hi => ?_, q1s, fun i hi => ?_, q2s, q3, fun e he => ?_, d2, d2', d3, fun i h1 h2 => Or.inl (s1 i h1 h2), fun i h1 h2 => ?_⟩
  · have := q1 i hi; exact ⟨this.1, this.2.1, by omega⟩
  · have := q2 i hi; exact ⟨this.1, this.2.1, this.2.2.1, by omega⟩
  · have := d e he; exact ⟨by omega, this.2⟩
  · rcases q3 i h1 h2 with q | ⟨j, j1, j2⟩
    · left
      have a := hx (by omega)
      have b := (q2 a2 (by omega)).2.2.1
      by_cases e : i = a2
      · rw [e]; exact a
      · have := (q2s a2 i (by omega) h2).2; omega
    · by_cases g : j < a1
      · right; rw [← j2]; exact d2 j g
      · left; rw [← j2]; exact s1 j (by omega) j1
theorem WI_pop2 {kd : Ar} {f : Nat} {L SQ TQ K : Nat → Nat} {D : Nat → Prop} {n1 n2 a1 a2 c : Nat} (h : WI kd f L SQ TQ K D n1 n2 a1 a2 c) (hn : a2 < n2) (hx : a1 < n1 → L (TQ a2) < L (SQ a1)) (hd : ¬ D (TQ a2)) :
    c ≤ L (TQ a2) ∧ L (TQ a2) ≤ c + 7 ∧ WI kd f L SQ TQ K D n1 n2 a1 a2 (L (TQ a2)) := by
  obtain ⟨i1, i2, i3, q1, q1s, q2, q2s, q3, d, d2, d2', d3, q4, q4'⟩ := h
  have lo : c ≤ L (TQ a2) := by rcases q4' a2 (Nat.le_refl _) hn with q | q; exact q; exact absurd q hd
  have s1 : ∀ i, a1 ≤ i → i < n1 → L (TQ a2) < L (SQ i) := by
    intro i h1 h2
    have := hx (by omega)
    by_cases e : i = a1
    · rw [e]; exact this
    · have := (q1s a1 i (by omega) h2).2; omega
  have up := q2 a2 hn
  have kk : L (TQ a2) = K a2 := by
    rcases q3 a2 (Nat.le_refl _) hn with q | ⟨j, j1, j2⟩
    · exact q
    · by_cases g : j < a1
      · exact absurd (j2 ▸ d2 j g) hd
      · have := s1 j (by omega) j1; rw [j2] at this; omega
  refine ⟨lo, by omega, i1, i2, i3, fun i hi => ?_, q1s, fun i hi => ?_, q2s, q3, fun e he => ?_, d2, d2', d3, fun i h1 h2 => Or.inl (Nat.le_of_lt (s1 i h1 h2)), fun i h1 h2 => ?_⟩
  · have := q1 i hi; exact ⟨this.1, this.2.1, by omega⟩
  · have := q2 i hi; exact ⟨this.1, this.2.1, this.2.2.1, by omega⟩
  · have := d e he; exact ⟨by omega, this.2⟩
  · rcases q3 i h1 h2 with q | ⟨j, j1, j2⟩
    · left
      by_cases e : i = a2
      · rw [e]; exact Nat.le_refl _
      · have := (q2s a2 i (by omega) h2).2; omega
    · by_cases g : j < a1
      · right; rw [← j2]; exact d2 j g
      · left; rw [← j2]; exact Nat.le_of_lt (s1 j (by omega) j1)
/-- o is left, and all its steps are taken -/
theorem WI_done {kd : Ar} {f : Nat} {L SQ TQ K : Nat → Nat} {D : Nat → Prop} {n1 n2 a1 a2 b1 b2 c o : Nat} (h : WI kd f L SQ TQ K D n1 n2 a1 a2 c) (hc : L o ≤ c) (hr : ∀ t w, adj o t w → ¬ kd t = 0 → L t ≤ L o + w)
    (h1 : ∀ i, i < b1 → i < a1 ∨ SQ i = o) (h2 : ∀ i, i < b2 → i < a2 ∨ TQ i = o) (l1 : a1 ≤ b1) (l2 : a2 ≤ b2) : WI kd f L SQ TQ K (fun e => D e ∨ e = o) n1 n2 b1 b2 c := by
  obtain ⟨i1, i2, i3, q1, q1s, q2, q2s, q3, d, d2, d2', d3, q4, q4'⟩ := h
  refine ⟨i1, i2, i3, q1, q1s, q2, q2s, fun i g1 g2 => q3 i (by omega) g2, fun e he => ?_, fun i hi => ?_, fun i hi => ?_, d3, fun i g1 g2 => ?_, fun i g1 g2 => ?_⟩
  · rcases he with q | q
    · exact d e q
    · rw [q]; exact ⟨hc, hr⟩
  · rcases h1 i hi with q | q
    · exact Or.inl (d2 i q)
    · exact Or.inr q
  · rcases h2 i hi with q | q
    · exact Or.inl (d2' i q)
    · exact Or.inr q
  · rcases q4 i (by omega) g2 with q | q
    · exact Or.inl q
    · exact Or.inr (Or.inl q)
  · rcases q4' i (by omega) g2 with q | q
    · exact Or.inl q
    · exact Or.inr (Or.inl q)
