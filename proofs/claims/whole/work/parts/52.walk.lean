/-! walks -/
theorem inj_le : ∀ (m n : Nat) (g : Nat → Nat), (∀ i, i < n → g i < m) → (∀ i j, i < j → j < n → g i ≠ g j) → n ≤ m := by
  intro m
  induction m with
  | zero =>
    intro n g h1 h2
    rcases Nat.eq_zero_or_pos n with q | q
    · omega
    · have := h1 0 q; omega
  | succ m ih =>
    intro n g h1 h2
    by_cases c : ∃ i, i < n ∧ g i = m
    · obtain ⟨i, hi, gi⟩ := c
      have := ih (n - 1) (fun j => if j = i then g (n - 1) else g j) (fun j hj => by
        try dsimp only
        by_cases e : j = i
        · rw [if_pos e]
          have a := h1 (n - 1) (by omega)
          have b := h2 i (n - 1) (by omega) (by omega)
          omega
        · rw [if_neg e]
          have a := h1 j (by omega)
          rcases Nat.lt_or_gt_of_ne e with q | q
          · have b := h2 j i q hi; omega
          · have b := h2 i j q (by omega); omega) (fun j k hj hk => by
        try dsimp only
        by_cases e : j = i
        · rw [if_pos e, if_neg (by omega)]
          exact fun q => h2 k (n - 1) (by omega) (by omega) q.symm
        · rw [if_neg e]
          by_cases e2 : k = i
          · rw [if_pos e2]
            exact h2 j (n - 1) (by omega) (by omega)
          · rw [if_neg e2]
            exact h2 j k hj (by omega))
      omega
    · have := ih n g (fun i hi => by
        have a := h1 i hi
        have b : g i ≠ m := fun q => c ⟨i, hi, q⟩
        omega) h2
      omega
theorem inj_onto {n : Nat} {g : Nat → Nat} (h1 : ∀ i, i < n → g i < n) (h2 : ∀ i j, i < j → j < n → g i ≠ g j) {y : Nat} (hy : y < n) : ∃ i, i < n ∧ g i = y := by
  by_cases c : ∃ i, i < n ∧ g i = y
  · exact c
  · exfalso
    have := inj_le n (n + 1) (fun j => if j = n then y else g j) (fun i hi => by
      try dsimp only
      by_cases e : i = n
      · rw [if_pos e]; exact hy
      · rw [if_neg e]; exact h1 i (by omega)) (fun i j hi hj => by
      try dsimp only
      rw [if_neg (show ¬ i = n by omega)]
      by_cases e : j = n
      · rw [if_pos e]; exact fun q => c ⟨i, by omega, q⟩
      · rw [if_neg e]; exact h2 i j hi (by omega))
    omega
def adj (s t w : Nat) : Prop := s < 1200 ∧ t < 1200 ∧ s ≠ t ∧ cX t - cX s ≤ 1 ∧ cX s - cX t ≤ 1 ∧ cY t - cY s ≤ 1 ∧ cY s - cY t ≤ 1 ∧ w = if cX t = cX s ∨ cY t = cY s then 5 else 7
theorem adj_sym {s t w : Nat} (h : adj s t w) : adj t s w := by
  obtain ⟨a, b, c, d, e, f, g, i⟩ := h
  refine ⟨b, a, Ne.symm c, e, d, g, f, ?_⟩
  rw [i]
  by_cases q : cX t = cX s ∨ cY t = cY s
  · rw [if_pos q, if_pos (by omega)]
  · rw [if_neg q, if_neg (by omega)]
theorem adj_w {s t w : Nat} (h : adj s t w) : 5 ≤ w ∧ w ≤ 7 := by
  obtain ⟨a, b, c, d, e, f, g, i⟩ := h
  split at i <;> omega
theorem adj_fun {s t w w' : Nat} (h : adj s t w) (h' : adj s t w') : w = w' := by
  rw [h.2.2.2.2.2.2.2, h'.2.2.2.2.2.2.2]
theorem dxy4 : ∀ k, k < 8 → ((k < 4 → dxs.getD k 0 = 0 ∨ dys.getD k 0 = 0) ∧ (¬ k < 4 → ¬ (dxs.getD k 0 = 0 ∨ dys.getD k 0 = 0)) ∧ ¬ (dxs.getD k 0 = 0 ∧ dys.getD k 0 = 0)) := by decide
theorem dxy_ex {a b : Int} (h1 : -1 ≤ a) (h2 : a ≤ 1) (h3 : -1 ≤ b) (h4 : b ≤ 1) (h5 : ¬ (a = 0 ∧ b = 0)) : ∃ k, k < 8 ∧ dxs.getD k 0 = a ∧ dys.getD k 0 = b := by
  have : a = -1 ∨ a = 0 ∨ a = 1 := by omega
  have : b = -1 ∨ b = 0 ∨ b = 1 := by omega
  rcases this with rfl | rfl | rfl <;> rcases ‹a = -1 ∨ a = 0 ∨ a = 1› with rfl | rfl | rfl
  · exact ⟨4, by decide⟩
  · exact ⟨2, by decide⟩
  · exact ⟨5, by decide⟩
  · exact ⟨0, by decide⟩
  · exact absurd ⟨rfl, rfl⟩ h5
  · exact ⟨1, by decide⟩
  · exact ⟨6, by decide⟩
  · exact ⟨3, by decide⟩
  · exact ⟨7, by decide⟩
theorem stp_adj {s k t : Nat} (hs : s < 1200) (hk : k < 8) (h : stp s k = some t) : adj s t (if k < 4 then 5 else 7) := by
  have T := stp_at hs h
  have d := dxy k hk
  have e := dxy4 k hk
  refine ⟨hs, T.1, ?_, by omega, by omega, by omega, by omega, ?_⟩
  · intro q
    subst q
    exact e.2.2 ⟨by omega, by omega⟩
  · by_cases c : k < 4
    · have := e.1 c
      rw [if_pos c, if_pos (by omega)]
    · have := e.2.1 c
      rw [if_neg c, if_neg (by omega)]
theorem adj_stp {s t w : Nat} (h : adj s t w) : ∃ k, k < 8 ∧ stp s k = some t ∧ w = if k < 4 then 5 else 7 := by
  obtain ⟨a, b, c, d, e, f, g, i⟩ := h
  have fs := cXf s
  have ft := cXf t
  obtain ⟨k, k1, k2, k3⟩ := dxy_ex (a := cX t - cX s) (b := cY t - cY s) (by omega) (by omega) (by omega) (by omega) (fun q => c (by omega))
  refine ⟨k, k1, ?_, ?_⟩
  · rw [stp_iff, k2, k3]
    refine ⟨by omega, by omega⟩
  · rw [i]
    have e := dxy4 k k1
    rw [k2, k3] at e
    by_cases c : k < 4
    · have := e.1 c
      rw [if_pos c, if_pos (by omega)]
    · have := e.2.1 c
      rw [if_neg c, if_neg (by omega)]
/-- a walk of m + 1 steps from f to t, n long, its squares between all headland -/
def wk (kd : Ar) (f : Nat) : Nat → Nat → Nat → Prop
  | 0, t, n => adj f t n
  | m + 1, t, n => ∃ o w n', wk kd f m o n' ∧ kd o = 1 ∧ adj o t w ∧ n = n' + w
theorem wk_pre {kd : Ar} {f o w : Nat} (h : adj f o w) (ho : kd o = 1) : ∀ (m t n : Nat), wk kd o m t n → wk kd f (m + 1) t (w + n) := by
  intro m
  induction m with
  | zero => intro t n hw; exact ⟨o, n, w, h, ho, hw, rfl⟩
  | succ m ih =>
    intro t n ⟨o', w', n', h1, h2, h3, h4⟩
    exact ⟨o', w', w + n', ih o' n' h1, h2, h3, by omega⟩
theorem wk_rev {kd : Ar} {f : Nat} : ∀ (m t n : Nat), wk kd f m t n → ∃ m', wk kd t m' f n := by
  intro m
  induction m with
  | zero => intro t n hw; exact ⟨0, adj_sym hw⟩
  | succ m ih =>
    intro t n ⟨o, w, n', h1, h2, h3, h4⟩
    obtain ⟨m', h5⟩ := ih o n' h1
    refine ⟨m' + 1, ?_⟩
    have := wk_pre (adj_sym h3) h2 m' f n' h5
    rw [show n = w + n' by omega]
    exact this
/-- how far it is from f to t: v, or none (v = 1000000) -/
def Dst (kd : Ar) (f t v : Nat) : Prop := (t = f ∧ v = 0) ∨ (t ≠ f ∧ v ≤ 16807 ∧ (∃ m, wk kd f m t v) ∧ ∀ m n, wk kd f m t n → v ≤ n) ∨ (t ≠ f ∧ v = 1000000 ∧ ∀ m n, ¬ wk kd f m t n)
theorem Dst_fun {kd : Ar} {f t v v' : Nat} (h : Dst kd f t v) (h' : Dst kd f t v') : v = v' := by
  rcases h with ⟨a, b⟩ | ⟨a, b, ⟨m, c⟩, d⟩ | ⟨a, b, c⟩ <;> rcases h' with ⟨a', b'⟩ | ⟨a', b', ⟨m', c'⟩, d'⟩ | ⟨a', b', c'⟩
  · omega
  · exact absurd a a'
  · exact absurd a a'
  · exact absurd a' a
  · have := d _ _ c'; have := d' _ _ c; omega
  · exact absurd c (c' _ _)
  · exact absurd a' a
  · exact absurd c' (c _ _)
  · omega
theorem Dst_sym {kd : Ar} {f t v : Nat} (h : Dst kd f t v) : Dst kd t f v := by
  rcases h with ⟨a, b⟩ | ⟨a, b, ⟨m, c⟩, d⟩ | ⟨a, b, c⟩
  · exact Or.inl ⟨a.symm, b⟩
  · refine Or.inr (Or.inl ⟨Ne.symm a, b, wk_rev m t v c, fun m' n hw => ?_⟩)
    obtain ⟨m2, h2⟩ := wk_rev m' f n hw
    exact d m2 n h2
  · refine Or.inr (Or.inr ⟨Ne.symm a, b, fun m' n hw => ?_⟩)
    obtain ⟨m2, h2⟩ := wk_rev m' f n hw
    exact c m2 n h2
theorem Dst_of {kd : Ar} {f : Nat} {L : Nat → Nat} (a : L f = 0) (h2 : ∀ t, L t ≤ 1000000) (bd : ∀ t, t < 1200 → ¬ kd t = 0 → L t < 1000000 → L t ≤ 16807)
    (b : ∀ o t w, (o = f ∨ kd o = 1) → L o < 1000000 → adj o t w → ¬ kd t = 0 → L t ≤ L o + w)
    (c : ∀ t, t < 1200 → t ≠ f → L t < 1000000 → ∃ o w, (o = f ∨ kd o = 1) ∧ adj o t w ∧ L o + w ≤ L t) {t : Nat} (ht : t < 1200) (hk : ¬ kd t = 0) : Dst kd f t (L t) := by
  have n10 : ¬ (1 : Int32) = 0 := by decide
  have up : ∀ m t n, ¬ kd t = 0 → wk kd f m t n → L t < 1000000 ∧ L t ≤ n := by
    intro m
    induction m with
    | zero =>
      intro t n hk hw
      have := b f t n (Or.inl rfl) (by omega) hw hk
      have := adj_w hw
      omega
    | succ m ih =>
      intro t n hk ⟨o, w, n', w1, w2, w3, w4⟩
      have I := ih o n' (by rw [w2]; exact n10) w1
      have := b o t w (Or.inr w2) I.1 w3 hk
      have := adj_w w3
      have := bd o w3.1 (by rw [w2]; exact n10) I.1
      omega
  have wit : ∀ v t, L t = v → t < 1200 → t ≠ f → L t < 1000000 → ∃ m n, wk kd f m t n ∧ n ≤ L t := by
    intro v
    induction v using Nat.strongRecOn with
    | _ v ih =>
      intro t e ht hf hl
      obtain ⟨o, w, o1, o2, o3⟩ := c t ht hf hl
      have := adj_w o2
      by_cases q : o = f
      · subst q
        exact ⟨0, w, o2, by omega⟩
      · have o1' : kd o = 1 := by rcases o1 with r | r; exact absurd r q; exact r
        obtain ⟨m, n, h3, h4⟩ := ih (L o) (by omega) o rfl o2.1 q (by omega)
        exact ⟨m + 1, n + w, ⟨o, w, n, h3, o1', o2, rfl⟩, by omega⟩
  by_cases q : t = f
  · exact Or.inl ⟨q, by rw [q]; exact a⟩
  · by_cases l : L t < 1000000
    · obtain ⟨m, n, h3, h4⟩ := wit _ t rfl ht q l
      have := up m t n hk h3
      have e : n = L t := by omega
      subst e
      exact Or.inr (Or.inl ⟨q, bd t ht hk l, ⟨m, h3⟩, fun m n hw => (up m t n hk hw).2⟩)
    · have := h2 t
      exact Or.inr (Or.inr ⟨q, by omega, fun m n hw => l (up m t n hk hw).1⟩)
